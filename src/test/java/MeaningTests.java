import java.util.ArrayList;
import java.util.List;
import java.util.Random;

/**
 * What the answers mean, held against a table of all ways in which the things can be true or false:
 * THE ANSWER meets all clauses, NO ANSWER means that there is none, a CORE can't be met, a row follows
 * from what was told. It knows nothing of the way that the search goes. Like AgainstPlainSearch it asks
 * some objects more than the 512 calls that are promised.
 */
public final class MeaningTests {
    private static int wrong = 0;
    private static int cores = 0;
    private static int learned = 0;
    private static int barred = 0;

    private final String name;
    private final Random random;
    private final int things;
    private final ClauseSearch x;
    private final List<int[]> told = new ArrayList<>();
    private final List<Integer> assumed = new ArrayList<>();
    private int rowsSeen = 0;

    private MeaningTests(int seed) {
        name = "seed " + seed;
        random = new Random(31L * seed + 5);
        things = 1 + random.nextInt(9);
        x = new ClauseSearch(things);
    }

    public static void main(String[] args) {
        for (int seed = 0; seed < 1500; seed++) {
            MeaningTests one = new MeaningTests(seed);
            one.tellClauses();
            one.tellKernels();
            for (int round = 0; round < 4; round++) {
                one.supposeAndSearch();
            }
            one.barAll();
        }
        check("cores were met", cores > 300);
        check("rows were learned", learned > 1000);
        check("answers were barred", barred > 5000);
        System.out.println(wrong == 0 ? "all answers mean what they say" : wrong + " answers do not");
        if (wrong != 0) {
            System.exit(1);
        }
    }

    private static void check(String what, boolean good) {
        if (!good) {
            wrong++;
            System.out.println("not so: " + what);
        }
    }

    private void tellClauses() {
        int count = random.nextInt(4 * things + 2);
        for (int c = 0; c < count; c++) {
            int number = x.clause();
            List<Integer> literals = new ArrayList<>();
            int size = random.nextInt(40) == 0 ? 0 : 2 + random.nextInt(3);
            for (int i = 0; i < size; i++) {
                int literal = random.nextInt(2 * things);
                if (x.literal(number, literal / 2, literal % 2 == 1)) {
                    literals.add(literal);
                }
            }
            told.add(array(literals));
        }
    }

    /** Of each two things of a place one is false. */
    private void tellKernels() {
        int[] placeOf = new int[things];
        int count = random.nextInt(things + 1);
        for (int thing = 0; thing < count; thing++) {
            placeOf[thing] = random.nextInt(4);
            check(name + ": kernel(" + thing + ", ..)", x.kernel(thing, placeOf[thing], thing));
            for (int other = 0; other < thing; other++) {
                if (placeOf[other] == placeOf[thing]) {
                    told.add(new int[] {2 * other, 2 * thing});
                }
            }
        }
        check(name + ": clauses()", x.clauses() == told.size());
    }

    private void supposeAndSearch() {
        x.freely();
        assumed.clear();
        int count = random.nextInt(things + 1);
        for (int n = 0; n < count; n++) {
            int literal = random.nextInt(2 * things);
            if (x.assume(literal / 2, literal % 2 == 1)) {
                assumed.add(literal);
            }
        }
        int state = search();
        check(name + ": the search ends", state == 0 || state == 2);
        check(name + ": no answer", state != 2 || !canBeMet(assumed));
        if (state == 0) {
            lookAtAnswer();
        } else {
            lookAtCore();
        }
        lookAtRows();
    }

    private int search() {
        int state = x.run(random.nextInt(6));
        for (int times = 0; times < 20_000 && state == 3; times++) {
            x.goOn(random.nextInt(4));
            state = x.state();
        }
        return state;
    }

    private void lookAtAnswer() {
        int way = wayOfAnswer();
        check(name + ": the answer meets all clauses", meetsAll(way));
        check(name + ": the answer is as assumed", isAs(way, assumed));
    }

    private void lookAtCore() {
        List<Integer> core = new ArrayList<>();
        for (int k = 0; k < 41 && x.core(k) >= 0; k++) {
            core.add(x.core(k));
        }
        List<Integer> inOrder = new ArrayList<>(assumed);
        inOrder.retainAll(core);
        check(name + ": the core is of the assumptions, in their order", core.equals(inOrder));
        check(name + ": the core can't be met", !canBeMet(core));
        cores += core.size() > 1 ? 1 : 0;
    }

    /** Rows follow from the clauses alone, whatever was assumed when they were learned. */
    private void lookAtRows() {
        for (; rowsSeen < x.rows(); rowsSeen++) {
            List<Integer> refused = new ArrayList<>();
            for (int i = 0; x.row(rowsSeen, i) >= 0; i++) {
                refused.add(x.row(rowsSeen, i) ^ 1);
            }
            check(name + ": row " + rowsSeen + " follows", !canBeMet(refused));
            learned++;
        }
    }

    /** Barred one after the other, the answers are all that there are, each of them once. */
    private void barAll() {
        x.freely();
        int due = 0;
        for (int way = 0; way < 1 << things; way++) {
            due += meetsAll(way) ? 1 : 0;
        }
        for (int n = 0; n < due; n++) {
            check(name + ": answer " + n + " is there", search() == 0);
            int way = wayOfAnswer();
            check(name + ": answer " + n + " is a new one", meetsAll(way));
            check(name + ": block()", x.block());
            told.add(array(literalsAgainst(way)));
            barred++;
        }
        check(name + ": then there is none", search() == 2);
        lookAtRows();
    }

    private int wayOfAnswer() {
        int way = 0;
        for (int thing = 0; thing < things; thing++) {
            way |= x.truth(thing) ? 1 << thing : 0;
        }
        return way;
    }

    private List<Integer> literalsAgainst(int way) {
        List<Integer> literals = new ArrayList<>();
        for (int thing = 0; thing < things; thing++) {
            literals.add(2 * thing + 1 - (way >> thing & 1));
        }
        return literals;
    }

    private boolean canBeMet(List<Integer> also) {
        for (int way = 0; way < 1 << things; way++) {
            if (isAs(way, also) && meetsAll(way)) {
                return true;
            }
        }
        return false;
    }

    private boolean meetsAll(int way) {
        for (int[] clause : told) {
            boolean met = false;
            for (int literal : clause) {
                met |= isSo(way, literal);
            }
            if (!met) {
                return false;
            }
        }
        return true;
    }

    private static boolean isAs(int way, List<Integer> literals) {
        for (int literal : literals) {
            if (!isSo(way, literal)) {
                return false;
            }
        }
        return true;
    }

    private static boolean isSo(int way, int literal) {
        return (way >> literal / 2 & 1) == literal % 2;
    }

    private static int[] array(List<Integer> literals) {
        return literals.stream().mapToInt(Integer::intValue).toArray();
    }
}
