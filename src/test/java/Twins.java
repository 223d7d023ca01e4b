import java.util.function.Function;
import java.util.function.Supplier;

/**
 * Two objects with the same past, one of which is then asked for what it must refuse. A refused call
 * does nothing, so the two answer alike at once, and alike whatever is asked of both from there on.
 */
final class Twins extends Due {
    /** What both are asked from there on; each on objects of its own, lest one hide what another shows. */
    private static final int FUTURES = 6;

    private final String name;
    private final ClauseSearch tried;
    private final ClauseSearch spared;
    private final int things;

    private Twins(String name, Supplier<ClauseSearch> past, int things) {
        this.name = name;
        this.things = things;
        tried = past.get();
        spared = past.get();
    }

    static void refuses(String call, int things, Supplier<ClauseSearch> past, Function<ClauseSearch, Boolean> attempt) {
        answers(call, things, past, x -> attempt.apply(x) ? 1 : 0, 0);
    }

    /** The call answers what is due, and has done nothing. */
    static void answers(
            String call, int things, Supplier<ClauseSearch> past, Function<ClauseSearch, Integer> attempt, int due) {
        for (int future = 0; future < FUTURES; future++) {
            Twins twins = new Twins(call, past, things);
            twins.lookAlike("before it");
            due(call, attempt.apply(twins.tried), due);
            twins.lookAlike("behind it");
            twins.live(future);
        }
    }

    private void live(int future) {
        switch (future) {
            case 0 -> goOn();
            case 1 -> beginAnew();
            case 2 -> takeLiterals();
            case 3 -> takeKernels();
            case 4 -> takeAssumptions();
            default -> takeClauses();
        }
    }

    private void goOn() {
        both("goOn(1)", x -> x.goOn(1) ? 1 : 0);
        lookAlike("behind goOn(1)");
        both("goOn(1000)", x -> x.goOn(1000) ? 1 : 0);
        lookAlike("behind goOn(1000)");
        both("block()", x -> x.block() ? 1 : 0);
        both("run(1000)", x -> x.run(1000));
        lookAlike("behind run(1000)");
    }

    private void beginAnew() {
        both("run(3)", x -> x.run(3));
        lookAlike("behind run(3)");
        both("goOn(1000)", x -> x.goOn(1000) ? 1 : 0);
        both("block()", x -> x.block() ? 1 : 0);
        both("clauses()", ClauseSearch::clauses);
    }

    private void takeLiterals() {
        for (int thing = 0; thing < Math.min(8, things); thing++) {
            int one = thing;
            both("literal(last, " + one + ", true)", x -> x.literal(x.clauses() - 1, one, true) ? 1 : 0);
            both("literal(last, " + one + ", false)", x -> x.literal(x.clauses() - 1, one, false) ? 1 : 0);
        }
        both("run(1000)", x -> x.run(1000));
        lookAlike("behind literals and run(1000)");
    }

    private void takeKernels() {
        for (int thing = 0; thing < Math.min(8, things); thing++) {
            int one = thing;
            both("kernel(" + one + ", 9, 9)", x -> x.kernel(one, 9, 9) ? 1 : 0);
            both("kernel(" + one + ", 9, " + one + ")", x -> x.kernel(one, 9, one) ? 1 : 0);
            both("clauses()", ClauseSearch::clauses);
        }
        both("run(1000)", x -> x.run(1000));
        lookAlike("behind kernels and run(1000)");
    }

    private void takeAssumptions() {
        for (int thing = 0; thing < Math.min(8, things); thing++) {
            int one = thing;
            both("assume(" + one + ", true)", x -> x.assume(one, one != 5) ? 1 : 0);
        }
        both("run(1000)", x -> x.run(1000));
        lookAlike("behind assumptions and run(1000)");
    }

    private void takeClauses() {
        both("clause()", ClauseSearch::clause);
        both("literal(last, 3, true)", x -> x.literal(x.clauses() - 1, 3, true) ? 1 : 0);
        both("clause()", ClauseSearch::clause);
        both("run(1000)", x -> x.run(1000));
        lookAlike("behind clauses and run(1000)");
    }

    private void both(String call, Function<ClauseSearch, Integer> asked) {
        due(name + ", " + call, asked.apply(tried), asked.apply(spared));
    }

    /** All that can be asked; of many rows the last two. At most some 90 calls. */
    private void lookAlike(String when) {
        both("state() " + when, ClauseSearch::state);
        due(name + ", used() " + when, tried.used(), spared.used());
        both("clauses() " + when, ClauseSearch::clauses);
        both("rows() " + when, ClauseSearch::rows);
        for (int n = 0; n < 10; n++) {
            int thing = n < 8 ? n : things - n + 7;
            both("truth(" + thing + ") " + when, x -> x.truth(thing) ? 1 : 0);
        }
        for (int n = 0; n < 5; n++) {
            int k = n;
            both("core(" + k + ") " + when, x -> x.core(k));
        }
        for (int n = Math.max(0, spared.rows() - 2); n <= spared.rows(); n++) {
            int k = n;
            both("numberOf(" + k + ") " + when, x -> x.numberOf(k));
            for (int i = 0; i < 3; i++) {
                int at = i;
                both("row(" + k + ", " + at + ") " + when, x -> x.row(k, at));
            }
        }
    }
}
