import java.util.ArrayList;
import java.util.Arrays;
import java.util.HashMap;
import java.util.HashSet;
import java.util.LinkedHashMap;
import java.util.List;
import java.util.Map;
import java.util.Set;

/**
 * The document once more, written with recursion, exceptions and collections, so that
 * it shares no way of working with CoverageDesk; ModelTest compares the two.
 */
final class SlowModel {
    private static final String NAMES = "SET ADD MOVE SUB GO ZERO BELOW CHOICE CALL GIVE THROW PART";
    private static final List<String> OPS = Arrays.asList(NAMES.split(" "));

    private static final class Raised extends Exception {
        private static final long serialVersionUID = 1L;
        final int value;

        Raised(int value) {
            super(null, null, false, false);
            this.value = value;
        }
    }

    private static final class TooLong extends Exception {
        private static final long serialVersionUID = 1L;

        TooLong() {
            super(null, null, false, false);
        }
    }

    private static final class Method {
        List<List<Integer>> instructions = new ArrayList<>();
        List<List<Integer>> handlers = new ArrayList<>();
        Map<String, Long> counts = new HashMap<>();
        Map<String, Integer> gone = new LinkedHashMap<>();

        boolean there(int i) {
            return i >= 0 && i < instructions.size();
        }

        String op(int i) {
            return OPS.get(instructions.get(i).get(0));
        }

        void count(String what) {
            counts.merge(what, 1L, Long::sum);
        }

        int counted(String what) {
            return Math.toIntExact(counts.getOrDefault(what, 0L));
        }

        /** Where each way leads; null is outside. */
        List<Integer> ways(int i) {
            long b = instructions.get(i).get(2);
            List<Long> to = switch (op(i)) {
                case "THROW" -> List.of();
                case "GIVE" -> List.of(-1L);
                case "GO" -> List.of(b);
                case "ZERO", "BELOW" -> List.of(i + 1L, b);
                case "CHOICE" -> List.of(i + 1L, b, b + 1, b + 2);
                default -> List.of(i + 1L);
            };
            List<Integer> ways = new ArrayList<>();
            for (long one : to) {
                ways.add(one >= 0 && one < instructions.size() ? (Integer) (int) one : null);
            }
            return ways;
        }
    }

    private record Kept(Method[] methods, long load) {
    }

    private final Method[] methods = {new Method(), new Method(), new Method(), new Method()};
    private final Kept[] slots = new Kept[3];
    private Method draft = new Method();
    private int latest = 0;
    private long load = 0;
    private int begunInRun = 0;

    boolean add(int op, int a, int b, int line) {
        boolean good = op >= 0 && op <= 11 && a >= 0 && a <= 3 && line >= 0 && line <= 15;
        return good && draft.instructions.size() < 24 && draft.instructions.add(List.of(op, a, b, line));
    }

    boolean guard(int from, int to, int at) {
        boolean good = from >= 0 && from <= 23 && to >= from && to <= 23 && at >= 0 && at <= 23;
        return good && draft.handlers.size() < 3 && draft.handlers.add(List.of(from, to, at));
    }

    int define(int m) {
        if (m < 0 || m > 3) {
            return -1;
        }
        methods[m] = draft;
        draft = new Method();
        return methods[m].instructions.size();
    }

    private boolean there(int m) {
        return m >= 0 && m <= 3 && !methods[m].instructions.isEmpty();
    }

    private boolean there(int m, int i) {
        return there(m) && methods[m].there(i);
    }

    int run(int m, int x, int y) {
        if (!there(m) || load > 1000000000) {
            return -1;
        }
        begunInRun = 0;
        try {
            latest = invoke(methods[m], x, y, 1);
            return 0;
        } catch (Raised raised) {
            latest = raised.value;
            return 1;
        } catch (TooLong end) {
            latest = 0;
            return 2;
        }
    }

    private static void finish(Method method, StringBuilder row) {
        String text = row.toString();
        if (!text.isEmpty() && (method.gone.containsKey(text) || method.gone.size() < 40)) {
            method.gone.merge(text, 1, Integer::sum);
        }
        row.setLength(0);
    }

    private int invoke(Method method, int x, int y, int depth) throws Raised, TooLong {
        int[] variables = {x, y, 0, 0};
        StringBuilder row = new StringBuilder();
        String way = "";
        Integer i = 0;
        while (i != null) {
            if (begunInRun == 200) {
                finish(method, row);
                throw new TooLong();
            }
            begunInRun++;
            load++;
            method.count("begun " + i);
            row.append(way).append(i);
            way = "";
            try {
                int k = perform(method, i, variables, depth);
                method.count("taken " + i + " " + k);
                Integer to = method.ways(i).get(k);
                if (to == null || to <= i) {
                    finish(method, row);
                } else {
                    way = " by " + k + " to ";
                }
                if (to == null) {
                    return method.op(i).equals("GIVE") ? variables[method.instructions.get(i).get(1)] : 0;
                }
                i = to;
            } catch (Raised raised) {
                method.count("thrown " + i);
                finish(method, row);
                i = handle(method, i, variables, raised);
            } catch (TooLong end) {
                finish(method, row);
                throw end;
            }
        }
        return 0;
    }

    private static Integer handle(Method method, int i, int[] variables, Raised raised) throws Raised {
        for (List<Integer> handler : method.handlers) {
            if (handler.get(0) <= i && i <= handler.get(1)) {
                variables[0] = raised.value;
                return method.there(handler.get(2)) ? handler.get(2) : null;
            }
        }
        throw raised;
    }

    /** The number of the way that is taken. */
    private int perform(Method method, int i, int[] variables, int depth) throws Raised, TooLong {
        int a = method.instructions.get(i).get(1);
        int b = method.instructions.get(i).get(2);
        int w = variables[a];
        int v = variables[b & 3];
        switch (method.op(i)) {
            case "SET" -> variables[a] = b;
            case "ADD" -> variables[a] = w + b;
            case "MOVE" -> variables[a] = v;
            case "SUB" -> variables[a] = w - v;
            case "CALL" -> {
                if (!there(b & 3)) {
                    throw new Raised(-1);
                }
                if (depth == 6) {
                    throw new Raised(-2);
                }
                variables[a] = invoke(methods[b & 3], variables[0], variables[1], depth + 1);
            }
            case "THROW" -> throw new Raised(w);
            case "PART" -> {
                if (v == 0) {
                    throw new Raised(0);
                }
                variables[a] = (int) ((long) w / v);
            }
            default -> { }
        }
        return switch (method.op(i)) {
            case "ZERO" -> w == 0 ? 1 : 0;
            case "BELOW" -> w < 0 ? 1 : 0;
            case "CHOICE" -> w == 1 || w == 2 || w == 3 ? w : 0;
            default -> 0;
        };
    }

    int result() {
        return latest;
    }

    int begun(int m, int i) {
        return there(m, i) ? methods[m].counted("begun " + i) : -1;
    }

    int taken(int m, int i, int k) {
        boolean good = there(m, i) && k >= 0 && k < methods[m].ways(i).size();
        return good ? methods[m].counted("taken " + i + " " + k) : -1;
    }

    int thrown(int m, int i) {
        return there(m, i) ? methods[m].counted("thrown " + i) : -1;
    }

    int counters(int m) {
        if (!there(m)) {
            return -1;
        }
        int outside = methods[m].instructions.size();
        List<int[]> lines = new ArrayList<>();
        lines.add(new int[] {outside, 0});
        for (int i = 0; i < outside; i++) {
            for (Integer to : methods[m].ways(i)) {
                lines.add(new int[] {i, to == null ? outside : to});
            }
        }
        Set<Integer> seen = new HashSet<>();
        int parts = 0;
        for (int point = 0; point <= outside; point++) {
            parts += seen.contains(point) ? 0 : 1;
            spread(point, lines, seen);
        }
        return lines.size() - (outside + 1) + parts;
    }

    private static void spread(int point, List<int[]> lines, Set<Integer> seen) {
        if (seen.add(point)) {
            for (int[] line : lines) {
                if (line[0] == point || line[1] == point) {
                    spread(line[0] + line[1] - point, lines, seen);
                }
            }
        }
    }

    int stretches(int m) {
        return there(m) ? methods[m].gone.size() : -1;
    }

    int stretch(int m, int k, int what) {
        if (!there(m) || k < 0 || k >= methods[m].gone.size() || what < 0 || what > 3) {
            return -1;
        }
        String row = new ArrayList<>(methods[m].gone.keySet()).get(k);
        String[] numbers = row.split(" by . to ");
        return switch (what) {
            case 0 -> methods[m].gone.get(row);
            case 1 -> numbers.length;
            case 2 -> Integer.parseInt(numbers[0]);
            default -> Integer.parseInt(numbers[numbers.length - 1]);
        };
    }

    int line(int m, int line) {
        if (!there(m) || line < 0 || line > 15) {
            return -1;
        }
        boolean any = false;
        boolean some = false;
        boolean all = true;
        for (int i = 0; i < methods[m].instructions.size(); i++) {
            if (methods[m].instructions.get(i).get(3) == line) {
                any = true;
                boolean gone = begun(m, i) > 0;
                some |= gone;
                all &= gone;
                if (Set.of("ZERO", "BELOW", "CHOICE").contains(methods[m].op(i))) {
                    for (int k = 0; k < methods[m].ways(i).size(); k++) {
                        all &= taken(m, i, k) > 0;
                    }
                }
            }
        }
        return !any ? 0 : !some ? 1 : all ? 3 : 2;
    }

    int reset(int m) {
        if (!there(m)) {
            return -1;
        }
        methods[m].counts.clear();
        methods[m].gone.clear();
        return 0;
    }

    boolean keep(int slot) {
        if (slot < 0 || slot > 2) {
            return false;
        }
        Method[] copies = new Method[4];
        for (int m = 0; m < 4; m++) {
            copies[m] = new Method();
            copies[m].instructions.addAll(methods[m].instructions);
            copies[m].handlers.addAll(methods[m].handlers);
            copies[m].counts.putAll(methods[m].counts);
        }
        slots[slot] = new Kept(copies, load);
        return true;
    }

    int merge(int slot) {
        if (slot < 0 || slot > 2 || slots[slot] == null || load + slots[slot].load > 1000000000) {
            return -1;
        }
        int merged = 0;
        for (int m = 0; m < 4; m++) {
            Method kept = slots[slot].methods[m];
            boolean same = kept.instructions.equals(methods[m].instructions) && kept.handlers.equals(methods[m].handlers);
            if (there(m) && same) {
                merged++;
                for (Map.Entry<String, Long> entry : kept.counts.entrySet()) {
                    methods[m].counts.merge(entry.getKey(), entry.getValue(), Long::sum);
                }
            }
        }
        load += slots[slot].load;
        return merged;
    }
}
