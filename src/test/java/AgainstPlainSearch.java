import java.util.Random;

/**
 * Runs of chosen and of random calls, every answer compared with that of PlainSearch. Some ask more
 * than the 512 calls that are promised, since asking is what finds a difference.
 */
public final class AgainstPlainSearch {
    private static final long[] STEPS = {-5, 0, 1, 2, 3, 7, 20, 100, 5000, Long.MAX_VALUE, Long.MIN_VALUE};

    private static int wrong = 0;
    private static int answered = 0;
    private static int refuted = 0;
    private static int spent = 0;
    private static int cores = 0;
    private static int rowsSeen = 0;

    private final String name;
    private final ClauseSearch fast;
    private final PlainSearch plain;
    private final int things;

    private AgainstPlainSearch(String name, int things) {
        this.name = name;
        this.things = things;
        fast = new ClauseSearch(things);
        plain = new PlainSearch(things);
    }

    public static void main(String[] args) {
        for (int seed = 0; seed < 3000; seed++) {
            randomRun(seed);
        }
        for (int seed = 0; seed < 60; seed++) {
            randomFormula(seed, 25 + seed % 3 * 10);
        }
        pigeons(5);
        pigeons(6);
        fullOfClauses();
        fullOfLiterals(300);
        fullOfLiterals(250);
        fullOfLiterals(61);
        oneStepAtATime();
        same("random runs met an answer", answered > 500, true);
        same("random runs met no answer", refuted > 300, true);
        same("random runs were spent", spent > 300, true);
        same("random runs met cores", cores > 100, true);
        same("random runs learned rows", rowsSeen > 500, true);
        System.out.println(wrong == 0 ? "all answers are as due" : wrong + " answers are not as due");
        if (wrong != 0) {
            System.exit(1);
        }
    }

    private static void same(String what, Object got, Object due) {
        if (!got.equals(due)) {
            wrong++;
            if (wrong < 50) {
                System.out.println(what + " answered " + got + ", due is " + due);
            }
        }
    }

    private void check(String call, Object got, Object due) {
        same(name + ": " + call, got, due);
    }

    private int addClause() {
        int number = fast.clause();
        check("clause()", number, plain.clause());
        return number;
    }

    private boolean addLiteral(int clause, int thing, boolean truth) {
        boolean came = fast.literal(clause, thing, truth);
        check("literal(" + clause + ", " + thing + ", " + truth + ")", came, plain.literal(clause, thing, truth));
        return came;
    }

    private boolean tellKernel(int thing, int place, int symbol) {
        boolean came = fast.kernel(thing, place, symbol);
        check("kernel(" + thing + ", " + place + ", " + symbol + ")", came, plain.kernel(thing, place, symbol));
        return came;
    }

    private int searchFor(long steps) {
        int state = fast.run(steps);
        check("run(" + steps + ")", state, plain.run(steps));
        return state;
    }

    private boolean searchOn(long steps) {
        boolean ended = fast.goOn(steps);
        check("goOn(" + steps + ")", ended, plain.goOn(steps));
        return ended;
    }

    private boolean bar() {
        boolean barred = fast.block();
        check("block()", barred, plain.block());
        return barred;
    }

    private void suppose(int thing, boolean truth) {
        check("assume(" + thing + ", " + truth + ")", fast.assume(thing, truth), plain.assume(thing, truth));
    }

    /** All that can be asked without changing anything. */
    private void look() {
        check("state()", fast.state(), plain.state());
        check("used()", fast.used(), plain.used());
        check("clauses()", fast.clauses(), plain.clauses());
        check("rows()", fast.rows(), plain.rows());
        for (int thing = -1; thing <= Math.min(things, 301); thing++) {
            check("truth(" + thing + ")", fast.truth(thing), plain.truth(thing));
        }
        for (int k = -1; k <= 41; k++) {
            check("core(" + k + ")", fast.core(k), plain.core(k));
        }
    }

    private void lookAtRows(int from) {
        for (int k = from; k <= plain.rows(); k++) {
            check("numberOf(" + k + ")", fast.numberOf(k), plain.numberOf(k));
            for (int i = -1; i < 302; i++) {
                int literal = fast.row(k, i);
                check("row(" + k + ", " + i + ")", literal, plain.row(k, i));
                if (i >= 0 && literal == -1) {
                    break;
                }
            }
        }
    }

    private static void randomRun(int seed) {
        Random random = new Random(seed);
        int things = seed % 50 == 0 ? random.nextInt(7) - 3 : 1 + random.nextInt(14);
        AgainstPlainSearch both = new AgainstPlainSearch("seed " + seed, things);
        int calls = 20 + random.nextInt(150);
        int places = 1 + random.nextInt(5);
        for (int call = 0; call < calls; call++) {
            both.randomCall(random, places);
        }
        both.searchFor(1_000_000);
        both.look();
        both.lookAtRows(-1);
    }

    private void randomCall(Random random, int places) {
        int thing = random.nextInt(Math.max(1, things) + 1) - random.nextInt(20) / 19;
        int kind = random.nextInt(24);
        if (kind < 8) {
            int number = addClause();
            int size = random.nextInt(30) == 0 ? 0 : 1 + random.nextInt(4);
            for (int i = 0; i < size; i++) {
                addLiteral(number, random.nextInt(Math.max(1, things)), random.nextBoolean());
            }
        } else if (kind < 10) {
            addLiteral(plain.clauses() - 1 - random.nextInt(5) / 4, thing, random.nextBoolean());
        } else if (kind < 12) {
            tellKernel(thing, random.nextInt(places) + random.nextInt(20) / 19 * 65535, random.nextInt(6) - 1);
        } else if (kind < 15) {
            suppose(thing, random.nextBoolean());
        } else if (kind == 15) {
            fast.freely();
            plain.freely();
        } else if (kind < 18) {
            bar();
        } else if (kind < 20) {
            searchOn(STEPS[random.nextInt(STEPS.length)]);
        } else {
            countOutcome(searchFor(STEPS[random.nextInt(STEPS.length)]));
        }
        look();
    }

    private void countOutcome(int state) {
        answered += state == 0 ? 1 : 0;
        refuted += state == 2 ? 1 : 0;
        spent += state == 3 ? 1 : 0;
        cores += plain.core(1) >= 0 ? 1 : 0;
        rowsSeen += plain.rows() > 0 ? 1 : 0;
    }

    /** Three literals a clause, about as many clauses as make it hard; answers barred, assumptions tried. */
    private static void randomFormula(int seed, int things) {
        Random random = new Random(7919L * seed);
        AgainstPlainSearch both = new AgainstPlainSearch("formula " + seed, things);
        for (int c = 0; c < 4 * things; c++) {
            int number = both.addClause();
            for (int i = 0; i < 3; i++) {
                both.addLiteral(number, random.nextInt(things), random.nextBoolean());
            }
        }
        for (int round = 0; round < 12; round++) {
            if (both.searchFor(random.nextInt(40)) == 3) {
                both.searchOn(random.nextInt(20));
                both.look();
                both.searchOn(1_000_000);
            }
            both.look();
            if (round % 4 == 3) {
                both.fast.freely();
                both.plain.freely();
            } else if (random.nextBoolean()) {
                both.bar();
            } else {
                both.suppose(random.nextInt(things), random.nextBoolean());
                both.suppose(random.nextInt(things), random.nextBoolean());
            }
        }
        both.lookAtRows(0);
    }

    /** One pigeon more than holes; kernel() keeps the pigeons of one hole apart. */
    private static void pigeons(int holes) {
        AgainstPlainSearch both = new AgainstPlainSearch(holes + " holes", (holes + 1) * holes);
        for (int hole = holes - 1; hole >= 0; hole--) {
            for (int pigeon = holes; pigeon >= 0; pigeon--) {
                both.tellKernel(pigeon * holes + hole, hole, 65535 - pigeon);
            }
        }
        for (int pigeon = 0; pigeon <= holes; pigeon++) {
            int number = both.addClause();
            for (int hole = 0; hole < holes; hole++) {
                both.addLiteral(number, pigeon * holes + hole, true);
            }
        }
        searchInParts(both);
        both.look();
        both.lookAtRows(0);
    }

    private static void searchInParts(AgainstPlainSearch both) {
        both.searchFor(10);
        for (int times = 0; times < 300 && both.plain.state() == 3; times++) {
            both.searchOn(times);
        }
        same(both.name + " state", both.fast.state(), 2);
    }

    /** 55 things at one place make 1,485 clauses; the limit is 1,500. */
    private static void fullOfClauses() {
        AgainstPlainSearch both = new AgainstPlainSearch("full of clauses", 300);
        for (int thing = 0; thing < 55; thing++) {
            both.tellKernel(thing, 9, thing);
        }
        same("55 kernels: clauses()", both.fast.clauses(), 1485);
        both.tellKernel(55, 9, 55);
        both.searchFor(1000);
        both.look();
        both.tellKernel(60, 8, 0);
        for (int c = 0; c < 13; c++) {
            both.addLiteral(both.addClause(), 100 + c, true);
        }
        for (int thing = 61; thing < 63; thing++) {
            both.tellKernel(thing, 8, thing);
        }
        both.searchFor(1000);
        both.bar();
        both.tellKernel(62, 8, 1);
        both.searchFor(1000);
        both.bar();
        both.searchFor(1000);
        both.look();
        both.bar();
        both.addClause();
        both.look();
        same("full: clauses()", both.fast.clauses(), 1500);
        both.addLiteral(1499, 3, true);
        both.tellKernel(90, 7, 7);
        both.look();
        both.tellKernel(91, 7, 8);
        both.searchFor(1_000_000);
        both.searchOn(1_000_000);
        both.look();
        both.lookAtRows(0);
    }

    /** Answers are barred until there is no room for the literals of a row or of a barred answer. */
    private static void fullOfLiterals(int things) {
        AgainstPlainSearch both = new AgainstPlainSearch("full of literals, " + things, things);
        int state = both.searchFor(1_000_000);
        for (int times = 0; times < 200 && state == 0 && both.bar(); times++) {
            state = both.searchFor(1_000_000);
        }
        both.look();
        both.searchOn(1_000_000);
        both.look();
        both.lookAtRows(0);
        for (int c = 0; c < 6; c++) {
            int number = both.addClause();
            for (int thing = 0; thing < 31; thing++) {
                both.addLiteral(number, thing, true);
                both.addLiteral(number, thing, false);
            }
        }
        both.addLiteral(both.addClause(), 0, true);
        both.addLiteral(both.plain.clauses() - 1, 1, true);
        both.tellKernel(0, 1, 1);
        both.tellKernel(1, 1, 2);
        both.tellKernel(2, 1, 3);
        both.searchFor(1_000_000);
        both.look();
        both.lookAtRows(0);
    }

    /** However its STEPS are dealt out, the search goes the same way. */
    private static void oneStepAtATime() {
        for (int seed = 0; seed < 20; seed++) {
            ClauseSearch whole = new ClauseSearch(20);
            ClauseSearch parts = new ClauseSearch(20);
            ClauseSearch[] each = {whole, parts};
            for (ClauseSearch x : each) {
                Random random = new Random(seed);
                for (int c = 0; c < 88; c++) {
                    int number = x.clause();
                    for (int i = 0; i < 3; i++) {
                        x.literal(number, random.nextInt(20), random.nextBoolean());
                    }
                }
            }
            whole.run(Long.MAX_VALUE);
            parts.run(0);
            for (int times = 0; times < 100_000 && parts.state() == 3; times++) {
                parts.goOn(1);
            }
            same("one step at a time: state()", parts.state(), whole.state());
            same("one step at a time: used()", parts.used(), whole.used());
            same("one step at a time: rows()", parts.rows(), whole.rows());
        }
    }
}
