/** What the tests by hand share: short ways to tell and to ask, and a count of what is not as due. */
abstract class Due {
    /** The promise that is tested; 0 stands for the section "Terms". */
    static int promise = 0;

    private static int wrong = 0;

    static void due(String what, long got, long due) {
        if (got != due) {
            wrong++;
            System.out.println("promise " + promise + ": " + what + " answered " + got + ", due is " + due);
        }
    }

    static void due(String what, boolean got, boolean due) {
        due(what, got ? 1 : 0, due ? 1 : 0);
    }

    /** A clause of literals, written as 2 times the thing, and 1 for true. */
    static int tell(ClauseSearch x, int... literals) {
        int number = x.clause();
        for (int literal : literals) {
            due("literal " + literal + " of clause " + number, x.literal(number, literal / 2, literal % 2 == 1), true);
        }
        return number;
    }

    static void dueRow(ClauseSearch x, int k, int... literals) {
        for (int i = 0; i < literals.length; i++) {
            due("row(" + k + ", " + i + ")", x.row(k, i), literals[i]);
        }
        due("row(" + k + ", " + literals.length + ")", x.row(k, literals.length), -1);
    }

    static void dueCore(ClauseSearch x, int... literals) {
        for (int k = 0; k < literals.length; k++) {
            due("core(" + k + ")", x.core(k), literals[k]);
        }
        due("core(" + literals.length + ")", x.core(literals.length), -1);
    }

    /** Ends the test, with exit code 1 if an answer was not as due. */
    static void end() {
        System.out.println(wrong == 0 ? "all answers are as due" : wrong + " answers are not as due");
        if (wrong != 0) {
            System.exit(1);
        }
    }
}
