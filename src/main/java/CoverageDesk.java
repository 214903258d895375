public final class CoverageDesk {
    public static final int OK = 0, THROWN = 1, LONG = 2, BAD = -1;

    private static final int SET = 0, ADD = 1, MOVE = 2, SUB = 3, GO = 4, ZERO = 5,
            BELOW = 6, CHOICE = 7, CALL = 8, GIVE = 9, THROW = 10, PART = 11;

    private static final int METHODS = 4, INSTRUCTIONS = 24, HANDLERS = 3, LINES = 16,
            VARIABLES = 4, WAYS = 4, SLOTS = 3, STRETCHES = 40;
    private static final int INVOCATIONS = 6, RUN_LIMIT = 200, LOAD_LIMIT = 1000000000;
    private static final int NONE = -1;
    private static final int ABSENT = -1, TOO_DEEP = -2, BY_ZERO = 0;

    // Below every instruction's number, so that a way outside counts as a way back for stretches.
    private static final int OUTSIDE = -1;

    // How an invocation that has just ended speaks to the one that made it.
    private static final int SILENT = 0, GIVEN = 1, RAISED = 2;

    // A bank holds one method: first the methods in use, then those kept in each slot, then the draft.
    private static final int KEPT = METHODS, DRAFT = METHODS + SLOTS * METHODS, BANKS = DRAFT + 1;

    private static final int ALL_INSTRUCTIONS = BANKS * INSTRUCTIONS, ALL_HANDLERS = BANKS * HANDLERS,
            ALL_WAYS = ALL_INSTRUCTIONS * WAYS, ALL_STRETCHES = METHODS * STRETCHES,
            ALL_VARIABLES = INVOCATIONS * VARIABLES, POINTS = INSTRUCTIONS + 1;

    private final int[] sizes = new int[BANKS];
    private final int[] ops = new int[ALL_INSTRUCTIONS];
    private final int[] argsA = new int[ALL_INSTRUCTIONS];
    private final int[] argsB = new int[ALL_INSTRUCTIONS];
    private final int[] lines = new int[ALL_INSTRUCTIONS];

    private final int[] guards = new int[BANKS];
    private final int[] froms = new int[ALL_HANDLERS];
    private final int[] tos = new int[ALL_HANDLERS];
    private final int[] ats = new int[ALL_HANDLERS];

    private final int[] begunCounts = new int[ALL_INSTRUCTIONS];
    private final int[] thrownCounts = new int[ALL_INSTRUCTIONS];
    private final int[] takenCounts = new int[ALL_WAYS];

    private final boolean[] slotUsed = new boolean[SLOTS];
    private final int[] slotLoad = new int[SLOTS];

    // The numbers in a stretch only rise, so a bit for each instruction and two bits for
    // the way on from each tell it apart from all others.
    private final int[] stretchNumber = new int[METHODS];
    private final int[] stretchGone = new int[ALL_STRETCHES];
    private final int[] stretchRow = new int[ALL_STRETCHES];
    private final long[] stretchWays = new long[ALL_STRETCHES];

    private final int[] atWork = new int[INVOCATIONS];
    private final int[] place = new int[INVOCATIONS];
    private final int[] variables = new int[ALL_VARIABLES];
    private final int[] row = new int[INVOCATIONS];
    private final long[] rowWays = new long[INVOCATIONS];
    // The way out of the row's last instruction; it joins the row only if another one is begun.
    private final long[] wayOn = new long[INVOCATIONS];

    private final int[] part = new int[POINTS];

    private int depth = 0;
    private int signal = SILENT;
    private int carried = 0;
    private int latest = 0;
    private int load = 0;

    public CoverageDesk() {
    }

    public boolean add(int op, int a, int b, int line) {
        int n = sizes[DRAFT];
        if (op < SET || op > PART || !isWithin(a, VARIABLES) || !isWithin(line, LINES) || n >= INSTRUCTIONS) {
            return false;
        }
        int spot = DRAFT * INSTRUCTIONS + n;
        ops[spot] = op;
        argsA[spot] = a;
        argsB[spot] = b;
        lines[spot] = line;
        sizes[DRAFT] = n + 1;
        return true;
    }

    public boolean guard(int from, int to, int at) {
        int n = guards[DRAFT];
        if (from < 0 || from > to || to >= INSTRUCTIONS || !isWithin(at, INSTRUCTIONS) || n >= HANDLERS) {
            return false;
        }
        int spot = DRAFT * HANDLERS + n;
        froms[spot] = from;
        tos[spot] = to;
        ats[spot] = at;
        guards[DRAFT] = n + 1;
        return true;
    }

    public int define(int m) {
        if (!isWithin(m, METHODS)) {
            return BAD;
        }
        copyProgram(DRAFT, m);
        clearCounts(m);
        stretchNumber[m] = 0;
        sizes[DRAFT] = 0;
        guards[DRAFT] = 0;
        return sizes[m];
    }

    public int run(int m, int x, int y) {
        if (!isThere(m) || load > LOAD_LIMIT) {
            return BAD;
        }
        depth = 0;
        signal = SILENT;
        enter(m, x, y);
        for (int n = 0; n < RUN_LIMIT && depth > 0; n++) {
            performOne();
            passOn();
        }
        if (depth > 0) {
            breakOff();
            latest = 0;
            return LONG;
        }
        latest = carried;
        return signal == RAISED ? THROWN : OK;
    }

    public int result() {
        return latest;
    }

    public int begun(int m, int i) {
        return isInstruction(m, i) ? begunCounts[m * INSTRUCTIONS + i] : BAD;
    }

    public int taken(int m, int i, int k) {
        if (!isInstruction(m, i)) {
            return BAD;
        }
        int spot = m * INSTRUCTIONS + i;
        int ways = waysFrom(spot);
        return isWithin(k, ways) ? takenCounts[spot * WAYS + k] : BAD;
    }

    public int thrown(int m, int i) {
        return isInstruction(m, i) ? thrownCounts[m * INSTRUCTIONS + i] : BAD;
    }

    // Lines less points plus parts is the number of lines whose ends hang together
    // already when they are drawn: every other line makes two parts one.
    public int counters(int m) {
        if (!isThere(m)) {
            return BAD;
        }
        for (int p = 0; p < POINTS; p++) {
            part[p] = p;
        }
        joinsTwoParts(OUTSIDE, 0);
        int needed = 0;
        for (int i = 0; i < sizes[m]; i++) {
            int ways = waysFrom(m * INSTRUCTIONS + i);
            for (int k = 0; k < ways; k++) {
                int to = wayTo(m, i, k);
                if (!joinsTwoParts(i, to)) {
                    needed++;
                }
            }
        }
        return needed;
    }

    public int stretches(int m) {
        return isThere(m) ? stretchNumber[m] : BAD;
    }

    public int stretch(int m, int k, int what) {
        if (!isThere(m) || !isWithin(k, stretchNumber[m])) {
            return BAD;
        }
        int spot = m * STRETCHES + k;
        switch (what) {
            case 0:
                return stretchGone[spot];
            case 1:
                return lengthOf(stretchRow[spot]);
            case 2:
                return firstOf(stretchRow[spot]);
            case 3:
                return lastOf(stretchRow[spot]);
            default:
                return BAD;
        }
    }

    public int line(int m, int line) {
        if (!isThere(m) || !isWithin(line, LINES)) {
            return BAD;
        }
        int there = 0;
        int gone = 0;
        boolean allWays = true;
        for (int i = 0; i < sizes[m]; i++) {
            int spot = m * INSTRUCTIONS + i;
            if (lines[spot] == line) {
                there++;
                gone += begunCounts[spot] > 0 ? 1 : 0;
                allWays = allWays && branchesTaken(spot);
            }
        }
        if (there == 0) {
            return 0;
        }
        if (gone == 0) {
            return 1;
        }
        return gone == there && allWays ? 3 : 2;
    }

    public int reset(int m) {
        if (!isThere(m)) {
            return BAD;
        }
        clearCounts(m);
        stretchNumber[m] = 0;
        return OK;
    }

    public boolean keep(int slot) {
        if (!isWithin(slot, SLOTS)) {
            return false;
        }
        for (int m = 0; m < METHODS; m++) {
            int bank = keptBank(slot, m);
            copyProgram(m, bank);
            clearCounts(bank);
            addCounts(m, bank);
        }
        slotUsed[slot] = true;
        slotLoad[slot] = load;
        return true;
    }

    public int merge(int slot) {
        if (!isWithin(slot, SLOTS) || !slotUsed[slot] || slotLoad[slot] > LOAD_LIMIT - load) {
            return BAD;
        }
        int merged = 0;
        for (int m = 0; m < METHODS; m++) {
            int bank = keptBank(slot, m);
            if (isThere(m) && sameProgram(m, bank)) {
                addCounts(bank, m);
                merged++;
            }
        }
        load += slotLoad[slot];
        return merged;
    }

    private boolean isWithin(int n, int bound) {
        return n >= 0 && n < bound;
    }

    private boolean isThere(int m) {
        return isWithin(m, METHODS) && sizes[m] > 0;
    }

    private boolean isInstruction(int m, int i) {
        return isThere(m) && isWithin(i, sizes[m]);
    }

    private int keptBank(int slot, int m) {
        return KEPT + slot * METHODS + m;
    }

    private int waysFrom(int spot) {
        switch (ops[spot]) {
            case THROW:
                return 0;
            case ZERO:
            case BELOW:
                return 2;
            case CHOICE:
                return WAYS;
            default:
                return 1;
        }
    }

    private int wayTo(int m, int i, int k) {
        int spot = m * INSTRUCTIONS + i;
        int to = i + 1;
        if (ops[spot] == GIVE) {
            to = OUTSIDE;
        } else if (ops[spot] == GO) {
            to = argsB[spot];
        } else if (k > 0) {
            to = argsB[spot] + (k - 1);
        }
        return isWithin(to, sizes[m]) ? to : OUTSIDE;
    }

    private void copyProgram(int source, int target) {
        sizes[target] = sizes[source];
        guards[target] = guards[source];
        for (int i = 0; i < INSTRUCTIONS; i++) {
            int s = source * INSTRUCTIONS + i;
            int t = target * INSTRUCTIONS + i;
            ops[t] = ops[s];
            argsA[t] = argsA[s];
            argsB[t] = argsB[s];
            lines[t] = lines[s];
        }
        for (int h = 0; h < HANDLERS; h++) {
            int s = source * HANDLERS + h;
            int t = target * HANDLERS + h;
            froms[t] = froms[s];
            tos[t] = tos[s];
            ats[t] = ats[s];
        }
    }

    private boolean sameProgram(int one, int other) {
        boolean same = sizes[one] == sizes[other] && guards[one] == guards[other];
        for (int i = 0; same && i < sizes[one]; i++) {
            int s = one * INSTRUCTIONS + i;
            int t = other * INSTRUCTIONS + i;
            same = ops[s] == ops[t] && argsA[s] == argsA[t] && argsB[s] == argsB[t] && lines[s] == lines[t];
        }
        for (int h = 0; same && h < guards[one]; h++) {
            int s = one * HANDLERS + h;
            int t = other * HANDLERS + h;
            same = froms[s] == froms[t] && tos[s] == tos[t] && ats[s] == ats[t];
        }
        return same;
    }

    private void clearCounts(int bank) {
        for (int i = 0; i < INSTRUCTIONS; i++) {
            int spot = bank * INSTRUCTIONS + i;
            begunCounts[spot] = 0;
            thrownCounts[spot] = 0;
            for (int k = 0; k < WAYS; k++) {
                takenCounts[spot * WAYS + k] = 0;
            }
        }
    }

    // No count outgrows the LOAD, so none can wrap.
    private void addCounts(int source, int target) {
        for (int i = 0; i < INSTRUCTIONS; i++) {
            int s = source * INSTRUCTIONS + i;
            int t = target * INSTRUCTIONS + i;
            begunCounts[t] += begunCounts[s];
            thrownCounts[t] += thrownCounts[s];
            for (int k = 0; k < WAYS; k++) {
                takenCounts[t * WAYS + k] += takenCounts[s * WAYS + k];
            }
        }
    }

    private boolean branchesTaken(int spot) {
        int ways = waysFrom(spot);
        boolean all = true;
        // Instructions with one way alone are judged by being begun, not by their way.
        for (int k = 0; ways > 1 && k < ways; k++) {
            all = all && takenCounts[spot * WAYS + k] > 0;
        }
        return all;
    }

    private boolean joinsTwoParts(int one, int other) {
        int left = part[one == OUTSIDE ? INSTRUCTIONS : one];
        int right = part[other == OUTSIDE ? INSTRUCTIONS : other];
        for (int p = 0; p < POINTS; p++) {
            if (part[p] == left) {
                part[p] = right;
            }
        }
        return left != right;
    }

    private void enter(int m, int x, int y) {
        int base = depth * VARIABLES;
        variables[base] = x;
        variables[base + 1] = y;
        variables[base + 2] = 0;
        variables[base + 3] = 0;
        atWork[depth] = m;
        place[depth] = 0;
        clearRow(depth);
        depth++;
    }

    private void leave(int how, int value) {
        depth--;
        signal = how;
        carried = value;
    }

    private void performOne() {
        int top = depth - 1;
        int base = top * VARIABLES;
        int spot = atWork[top] * INSTRUCTIONS + place[top];
        int b = argsB[spot];
        int w = base + argsA[spot];
        int v = variables[base + (b & 3)];
        begin(top, spot);
        switch (ops[spot]) {
            case ZERO:
                follow(variables[w] == 0 ? 1 : 0, 0);
                break;
            case BELOW:
                follow(variables[w] < 0 ? 1 : 0, 0);
                break;
            case CHOICE:
                follow(variables[w] >= 1 && variables[w] <= 3 ? variables[w] : 0, 0);
                break;
            case CALL:
                if (!isThere(b & 3)) {
                    raise(ABSENT);
                } else if (depth >= INVOCATIONS) {
                    raise(TOO_DEEP);
                } else {
                    enter(b & 3, variables[base], variables[base + 1]);
                }
                break;
            case GIVE:
                follow(0, variables[w]);
                break;
            case THROW:
                raise(variables[w]);
                break;
            case PART:
                if (v == 0) {
                    raise(BY_ZERO);
                } else {
                    variables[w] /= v;
                    follow(0, 0);
                }
                break;
            default:
                compute(ops[spot], w, v, b);
                follow(0, 0);
                break;
        }
    }

    private void begin(int top, int spot) {
        load++;
        begunCounts[spot]++;
        row[top] |= 1 << place[top];
        rowWays[top] |= wayOn[top];
    }

    private void compute(int op, int w, int v, int b) {
        switch (op) {
            case SET:
                variables[w] = b;
                break;
            case ADD:
                variables[w] += b;
                break;
            case MOVE:
                variables[w] = v;
                break;
            case SUB:
                variables[w] -= v;
                break;
            default:
                break;
        }
    }

    // A GIVE alone hands in what it gives; behind every other way outside the invocation ends with 0.
    private void follow(int k, int given) {
        int top = depth - 1;
        int m = atWork[top];
        int i = place[top];
        takenCounts[(m * INSTRUCTIONS + i) * WAYS + k]++;
        int to = wayTo(m, i, k);
        if (to <= i) {
            closeRow(top);
        } else {
            wayOn[top] = (long) k << (2 * i);
        }
        if (to == OUTSIDE) {
            leave(GIVEN, given);
        } else {
            place[top] = to;
        }
    }

    private void raise(int x) {
        int top = depth - 1;
        int m = atWork[top];
        int i = place[top];
        thrownCounts[m * INSTRUCTIONS + i]++;
        closeRow(top);
        int h = firstHandler(m, i);
        if (h == NONE) {
            leave(RAISED, x);
        } else if (ats[m * HANDLERS + h] >= sizes[m]) {
            leave(GIVEN, 0);
        } else {
            variables[top * VARIABLES] = x;
            place[top] = ats[m * HANDLERS + h];
        }
    }

    private int firstHandler(int m, int i) {
        for (int h = 0; h < guards[m]; h++) {
            int spot = m * HANDLERS + h;
            if (i >= froms[spot] && i <= tos[spot]) {
                return h;
            }
        }
        return NONE;
    }

    // What ends one invocation can end the one that made it, and so on: no more turns than invocations.
    private void passOn() {
        for (int turn = 0; turn < INVOCATIONS && depth > 0 && signal != SILENT; turn++) {
            int how = signal;
            signal = SILENT;
            if (how == RAISED) {
                raise(carried);
            } else {
                int top = depth - 1;
                int spot = atWork[top] * INSTRUCTIONS + place[top];
                variables[top * VARIABLES + argsA[spot]] = carried;
                follow(0, 0);
            }
        }
    }

    private void breakOff() {
        for (int top = depth - 1; top >= 0; top--) {
            closeRow(top);
        }
    }

    private void closeRow(int top) {
        if (row[top] != 0) {
            countStretch(atWork[top], row[top], rowWays[top]);
        }
        clearRow(top);
    }

    private void clearRow(int top) {
        row[top] = 0;
        rowWays[top] = 0;
        wayOn[top] = 0;
    }

    private void countStretch(int m, int instructions, long ways) {
        int base = m * STRETCHES;
        int number = stretchNumber[m];
        for (int k = 0; k < number; k++) {
            if (stretchRow[base + k] == instructions && stretchWays[base + k] == ways) {
                stretchGone[base + k]++;
                return;
            }
        }
        if (number < STRETCHES) {
            stretchRow[base + number] = instructions;
            stretchWays[base + number] = ways;
            stretchGone[base + number] = 1;
            stretchNumber[m] = number + 1;
        }
    }

    private int lengthOf(int instructions) {
        int n = 0;
        for (int i = 0; i < INSTRUCTIONS; i++) {
            n += instructions >> i & 1;
        }
        return n;
    }

    private int firstOf(int instructions) {
        int i = 0;
        while (i < INSTRUCTIONS - 1 && (instructions >> i & 1) == 0) {
            i++;
        }
        return i;
    }

    private int lastOf(int instructions) {
        int i = INSTRUCTIONS - 1;
        while (i > 0 && (instructions >> i & 1) == 0) {
            i--;
        }
        return i;
    }
}
