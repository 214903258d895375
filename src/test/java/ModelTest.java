import java.util.ArrayList;
import java.util.HashMap;
import java.util.List;
import java.util.Map;

/** Drives CoverageDesk and SlowModel with the same calls, always the same ones, and compares every answer. */
public final class ModelTest {
    private static final int OBJECTS = 6000;
    private static final int CALLS = 512;
    private static final int MOST_FAULTS_TOLD = 5;

    private static int wrong = 0;
    /** How often each kind of answer came, so that the test can tell that it reached what it is for. */
    private static final Map<String, Integer> seen = new HashMap<>();

    /** Numbers without a random source: the same seed always gives the same calls. */
    private long state;
    private final CoverageDesk desk = new CoverageDesk();
    private final SlowModel model = new SlowModel();
    private final List<String> calls = new ArrayList<>();
    /** Programs defined so far, to be defined again now and then, so that merges find the same method. */
    private final List<List<int[]>> programs = new ArrayList<>();

    private ModelTest(long seed) {
        state = seed * 0x9E3779B97F4A7C15L + 0x1234567L;
    }

    public static void main(String[] args) {
        for (int n = 0; n < OBJECTS && wrong < MOST_FAULTS_TOLD; n++) {
            ModelTest test = new ModelTest(n);
            switch (n % 8) {
                case 3, 7 -> test.drive(true);
                case 5 -> test.wander();
                default -> test.drive(false);
            }
        }
        for (String need : List.of("run 0", "run 1", "run 2", "run -1", "merge -1", "merge 0", "merge 1", "merge 2",
                "merge 3", "merge 4", "line 0", "line 1", "line 2", "line 3", "stretches 40")) {
            if (wrong == 0 && seen.getOrDefault(need, 0) < 5) {
                wrong++;
                System.out.println("hardly ever reached: " + need);
            }
        }
        System.out.println(wrong == 0 ? "desk and model agree" : "desk and model differ");
        if (wrong != 0) {
            System.exit(1);
        }
    }

    private int below(int bound) {
        state ^= state << 13;
        state ^= state >>> 7;
        state ^= state << 17;
        return (int) Long.remainderUnsigned(state >>> 11, bound);
    }

    /** Mostly inside 0..bound - 1, now and then beside it. */
    private int about(int bound) {
        return below(40) == 0 ? (below(2) == 0 ? -1 : bound) : below(bound);
    }

    private void drive(boolean heavy) {
        int before = wrong;
        while (calls.size() < CALLS && wrong == before) {
            int choice = below(100);
            if (choice < 7) {
                defineSome(heavy);
            } else if (choice < 27) {
                run(about(4), input(), input());
            } else if (choice < (heavy ? 60 : 33)) {
                keepOrMerge();
            } else if (choice < 97 || heavy) {
                ask();
            } else {
                int m = about(4);
                compare("reset(" + m + ")", desk.reset(m), model.reset(m));
            }
        }
    }

    /** One method with more different stretches than are told apart. */
    private void wander() {
        int before = wrong;
        define(0, maze());
        while (calls.size() < CALLS && wrong == before) {
            run(0, below(41) - 20, below(9) - 4);
            askOfStretches(0);
        }
    }

    private void compare(String call, int got, int want) {
        calls.add(call);
        String kind = call.substring(0, call.indexOf('('));
        seen.merge(kind + " " + want, 1, Integer::sum);
        if (got != want && calls.size() <= CALLS) {
            wrong++;
            System.out.println(calls + " answered " + got + ", due is " + want);
        }
    }

    private void compare(String call, boolean got, boolean want) {
        compare(call, got ? 1 : 0, want ? 1 : 0);
    }

    private void defineSome(boolean heavy) {
        if (programs.isEmpty() || below(3) > 0) {
            programs.add(heavy ? loop() : program());
        }
        define(about(4), programs.get(below(programs.size())));
    }

    private void define(int m, List<int[]> parts) {
        for (int[] p : parts) {
            if (p.length == 4) {
                compare("add(" + p[0] + ", " + p[1] + ", " + p[2] + ", " + p[3] + ")",
                        desk.add(p[0], p[1], p[2], p[3]), model.add(p[0], p[1], p[2], p[3]));
            } else {
                compare("guard(" + p[0] + ", " + p[1] + ", " + p[2] + ")",
                        desk.guard(p[0], p[1], p[2]), model.guard(p[0], p[1], p[2]));
            }
        }
        compare("define(" + m + ")", desk.define(m), model.define(m));
    }

    private List<int[]> loop() {
        return List.of(new int[] {1, 0, 1, 0}, new int[] {4, 0, 0, below(3)});
    }

    private List<int[]> maze() {
        List<int[]> parts = new ArrayList<>();
        for (int i = 0; i < 24; i += 2) {
            parts.add(new int[] {7, 0, i + 1 + below(2), 0});
            parts.add(new int[] {3, 0, 1, 1});
        }
        return parts;
    }

    private List<int[]> program() {
        List<int[]> parts = new ArrayList<>();
        int size = below(12) == 0 ? 20 + below(6) : below(10);
        for (int i = 0; i < size; i++) {
            parts.add(instruction(i, size));
        }
        for (int h = below(6) - 2; h > 0; h--) {
            int from = about(Math.min(size + 1, 23));
            parts.add(new int[] {from, from + below(5) - (below(20) == 0 ? 1 : 0), about(Math.min(size + 2, 23))});
        }
        if (below(12) == 0 && !parts.isEmpty()) {
            // Differs from one defined before in a single number, so that merge must look at each.
            List<int[]> other = new ArrayList<>(programs.isEmpty() ? parts : programs.get(below(programs.size())));
            if (!other.isEmpty()) {
                int at = below(other.size());
                int[] changed = other.get(at).clone();
                changed[below(changed.length)] = below(4);
                other.set(at, changed);
                return other;
            }
        }
        return parts;
    }

    private int[] instruction(int i, int size) {
        int op = below(30) == 0 ? about(12) : new int[] {0, 1, 2, 3, 3, 4, 5, 5, 6, 7, 7, 7, 8, 8, 9, 10, 11, 11}[below(18)];
        int b = below(8) - 3;
        if (op >= 4 && op <= 7) {
            b = below(4) == 0 ? below(size + 3) - 2 : Math.min(i + 1 + below(4), size);
        }
        if (below(50) == 0) {
            b = new int[] {Integer.MAX_VALUE, Integer.MIN_VALUE, Integer.MAX_VALUE - 1}[below(3)];
        }
        return new int[] {op, about(4), b, below(60) == 0 ? about(16) : below(4)};
    }

    private int input() {
        int choice = below(20);
        return choice == 0 ? Integer.MIN_VALUE : choice == 1 ? Integer.MAX_VALUE : below(9) - 3;
    }

    private void run(int m, int x, int y) {
        compare("run(" + m + ", " + x + ", " + y + ")", desk.run(m, x, y), model.run(m, x, y));
        compare("result()", desk.result(), model.result());
    }

    private void keepOrMerge() {
        int slot = about(3);
        if (below(2) == 0) {
            compare("keep(" + slot + ")", desk.keep(slot), model.keep(slot));
        } else {
            compare("merge(" + slot + ")", desk.merge(slot), model.merge(slot));
        }
    }

    private void ask() {
        int m = about(4);
        int i = below(3) == 0 ? about(24) : below(9);
        switch (below(8)) {
            case 0 -> compare("begun(" + m + ", " + i + ")", desk.begun(m, i), model.begun(m, i));
            case 1, 2 -> {
                int k = about(4);
                compare("taken(" + m + ", " + i + ", " + k + ")", desk.taken(m, i, k), model.taken(m, i, k));
            }
            case 3 -> compare("thrown(" + m + ", " + i + ")", desk.thrown(m, i), model.thrown(m, i));
            case 4 -> compare("counters(" + m + ")", desk.counters(m), model.counters(m));
            case 5, 6 -> askOfStretches(m);
            default -> {
                int line = below(3) == 0 ? about(16) : below(4);
                compare("line(" + m + ", " + line + ")", desk.line(m, line), model.line(m, line));
            }
        }
    }

    private void askOfStretches(int m) {
        if (below(3) == 0) {
            compare("stretches(" + m + ")", desk.stretches(m), model.stretches(m));
        } else {
            int k = below(2) == 0 ? about(41) : below(7);
            int what = about(4);
            compare("stretch(" + m + ", " + k + ", " + what + ")", desk.stretch(m, k, what), model.stretch(m, k, what));
        }
    }
}
