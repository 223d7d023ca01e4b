import java.util.ArrayList;
import java.util.List;
import java.util.TreeSet;

/**
 * The document once more, word by word and without regard to speed: at every turn all clauses are
 * looked at anew. AgainstPlainSearch compares ClauseSearch with it.
 */
final class PlainSearch {
    private static final class Held {
        final int literal;
        final int level;
        final TreeSet<Integer> cause;

        Held(int literal, int level, TreeSet<Integer> cause) {
            this.literal = literal;
            this.level = level;
            this.cause = cause;
        }

        int thing() {
            return literal / 2;
        }
    }

    private final int things;
    private final List<TreeSet<Integer>> clauses = new ArrayList<>();
    private final List<Integer> rowNumbers = new ArrayList<>();
    private final List<Integer> assumed = new ArrayList<>();
    private final List<int[]> kernels = new ArrayList<>();
    private List<Held> trail = new ArrayList<>();
    private List<Integer> core = new ArrayList<>();
    private boolean lastIsOfClause = false;
    private int level = 0;
    private int state = 1;
    private long used = 0;
    private long left = 0;

    PlainSearch(int things) {
        this.things = things < 1 ? 1 : things > 300 ? 300 : things;
    }

    int clause() {
        if (!room(1, 0)) {
            return -1;
        }
        clauses.add(new TreeSet<>());
        lastIsOfClause = true;
        state = 1;
        return clauses.size() - 1;
    }

    boolean literal(int clause, int thing, boolean truth) {
        if (!lastIsOfClause || clause != clauses.size() - 1 || noThing(thing)) {
            return false;
        }
        TreeSet<Integer> last = clauses.get(clause);
        int literal = 2 * thing + (truth ? 1 : 0);
        if (last.contains(literal) || last.size() == 60 || !room(0, 1)) {
            return false;
        }
        last.add(literal);
        state = 1;
        return true;
    }

    boolean kernel(int thing, int place, int symbol) {
        if (noThing(thing) || place < 0 || place > 65535 || symbol < 0 || symbol > 65535) {
            return false;
        }
        TreeSet<Integer> others = new TreeSet<>();
        for (int[] told : kernels) {
            if (told[0] == thing || told[1] == place && told[2] == symbol) {
                return false;
            }
            if (told[1] == place) {
                others.add(told[0]);
            }
        }
        if (!room(others.size(), 2 * others.size())) {
            return false;
        }
        for (int other : others) {
            TreeSet<Integer> pair = new TreeSet<>();
            pair.add(2 * other);
            pair.add(2 * thing);
            clauses.add(pair);
            lastIsOfClause = false;
        }
        kernels.add(new int[] {thing, place, symbol});
        state = 1;
        return true;
    }

    int run(long steps) {
        trail = new ArrayList<>();
        core = new ArrayList<>();
        level = 0;
        used = 0;
        search(steps);
        return state;
    }

    boolean goOn(long steps) {
        if (state != 3) {
            return false;
        }
        search(steps);
        return state != 3;
    }

    boolean truth(int thing) {
        return state == 0 && !noThing(thing) && onTrail(2 * thing + 1);
    }

    boolean block() {
        if (state != 0 || !room(1, things)) {
            return false;
        }
        TreeSet<Integer> bar = new TreeSet<>();
        for (Held held : trail) {
            bar.add(held.literal ^ 1);
        }
        clauses.add(bar);
        lastIsOfClause = false;
        state = 1;
        return true;
    }

    boolean assume(int thing, boolean truth) {
        if (noThing(thing) || assumed.size() == 40
                || assumed.contains(2 * thing) || assumed.contains(2 * thing + 1)) {
            return false;
        }
        assumed.add(2 * thing + (truth ? 1 : 0));
        state = 1;
        return true;
    }

    void freely() {
        assumed.clear();
        state = 1;
    }

    int core(int k) {
        return state == 2 && k >= 0 && k < core.size() ? core.get(k) : -1;
    }

    int rows() {
        return rowNumbers.size();
    }

    int row(int k, int i) {
        int number = numberOf(k);
        if (number == -1 || i < 0 || i >= clauses.get(number).size()) {
            return -1;
        }
        return new ArrayList<>(clauses.get(number)).get(i);
    }

    int numberOf(int k) {
        return k >= 0 && k < rowNumbers.size() ? rowNumbers.get(k) : -1;
    }

    long used() {
        return used;
    }

    int state() {
        return state;
    }

    int clauses() {
        return clauses.size();
    }

    /** Literals of all clauses: what the limit of 20,000 is about. */
    int literalsInAll() {
        int all = 0;
        for (TreeSet<Integer> clause : clauses) {
            all += clause.size();
        }
        return all;
    }

    private boolean room(int moreClauses, int moreLiterals) {
        return clauses.size() + moreClauses <= 1500 && literalsInAll() + moreLiterals <= 20000;
    }

    private boolean noThing(int thing) {
        return thing < 0 || thing >= things;
    }

    private boolean onTrail(int literal) {
        for (Held held : trail) {
            if (held.literal == literal) {
                return true;
            }
        }
        return false;
    }

    private Held heldOf(int thing) {
        for (Held held : trail) {
            if (held.thing() == thing) {
                return held;
            }
        }
        return null;
    }

    private void search(long steps) {
        left = steps;
        state = -1;
        while (state == -1) {
            turn();
        }
    }

    private void turn() {
        boolean[] so = new boolean[2 * things];
        for (Held held : trail) {
            so[held.literal] = true;
        }
        for (TreeSet<Integer> clause : clauses) {
            if (isDead(clause, so)) {
                dead(clause);
                return;
            }
        }
        for (TreeSet<Integer> clause : clauses) {
            int literal = unitOf(clause, so);
            if (literal >= 0) {
                trail.add(new Held(literal, level, clause));
                return;
            }
        }
        for (int assumption : assumed) {
            if (so[assumption ^ 1]) {
                state = 2;
                findCore(assumption);
                return;
            }
            if (!so[assumption]) {
                newLevel(assumption);
                return;
            }
        }
        for (int thing = 0; thing < things; thing++) {
            if (!so[2 * thing] && !so[2 * thing + 1]) {
                newLevel(2 * thing);
                return;
            }
        }
        state = 0;
    }

    private static boolean isDead(TreeSet<Integer> clause, boolean[] so) {
        for (int literal : clause) {
            if (!so[literal ^ 1]) {
                return false;
            }
        }
        return true;
    }

    private static int unitOf(TreeSet<Integer> clause, boolean[] so) {
        int one = -1;
        for (int literal : clause) {
            if (!so[literal ^ 1]) {
                if (one >= 0) {
                    return -1;
                }
                one = literal;
            }
        }
        return one >= 0 && !so[one] ? one : -1;
    }

    private void newLevel(int literal) {
        if (left <= 0) {
            state = 3;
            return;
        }
        left--;
        used++;
        level++;
        trail.add(new Held(literal, level, null));
    }

    private void dead(TreeSet<Integer> clause) {
        if (level == 0) {
            state = 2;
            return;
        }
        TreeSet<Integer> row = learnt(clause);
        if (left <= 0 || !room(1, row.size())) {
            state = 3;
            return;
        }
        left--;
        used++;
        int turned = -1;
        int back = 0;
        for (int literal : row) {
            int itsLevel = heldOf(literal / 2).level;
            if (itsLevel == level) {
                turned = literal;
            } else {
                back = Math.max(back, itsLevel);
            }
        }
        rowNumbers.add(clauses.size());
        clauses.add(row);
        lastIsOfClause = false;
        final int greatest = back;
        trail.removeIf(held -> held.level > greatest);
        level = greatest;
        trail.add(new Held(turned, level, row));
    }

    private TreeSet<Integer> learnt(TreeSet<Integer> clause) {
        TreeSet<Integer> row = new TreeSet<>(clause);
        while (true) {
            int ofPresent = 0;
            Held last = null;
            for (Held held : trail) {
                if (held.level == level && row.contains(held.literal ^ 1)) {
                    ofPresent++;
                    last = held;
                }
            }
            if (ofPresent < 2) {
                return row;
            }
            row.addAll(last.cause);
            row.remove(2 * last.thing());
            row.remove(2 * last.thing() + 1);
        }
    }

    private void findCore(int failed) {
        TreeSet<Integer> origins = new TreeSet<>();
        List<Integer> open = new ArrayList<>();
        open.add(failed / 2);
        for (int at = 0; at < open.size(); at++) {
            Held held = heldOf(open.get(at));
            if (held.cause == null) {
                origins.add(held.thing());
                continue;
            }
            for (int literal : held.cause) {
                if (!open.contains(literal / 2)) {
                    open.add(literal / 2);
                }
            }
        }
        core = new ArrayList<>();
        for (int assumption : assumed) {
            if (assumption == failed || origins.contains(assumption / 2)) {
                core.add(assumption);
            }
        }
    }
}
