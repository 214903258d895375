/** What the tests of single promises and sentences share: programs in a short form, and answers that are due. */
abstract class Checks {
    protected static final int SET = 0, ADD = 1, MOVE = 2, SUB = 3, GO = 4, ZERO = 5, BELOW = 6, CHOICE = 7, CALL = 8,
            GIVE = 9, THROW = 10, PART = 11;
    protected static final int OK = CoverageDesk.OK, THROWN = CoverageDesk.THROWN, LONG = CoverageDesk.LONG,
            BAD = CoverageDesk.BAD;
    protected static final int MIN = Integer.MIN_VALUE, MAX = Integer.MAX_VALUE;
    protected static final int[] FAR_METHODS = {MIN, -1, 4, MAX}, FAR_SLOTS = {MIN, -1, 3, MAX};

    private static int wrong = 0;
    private static String subject = "";

    /** What a wrong answer is told to break, until the next subject. */
    protected static void about(String what, Runnable checks) {
        subject = what;
        checks.run();
    }

    protected static void due(String what, int got, int want) {
        if (got != want) {
            wrong++;
            System.out.println(subject + ": " + what + " answered " + got + ", due is " + want);
        }
    }

    protected static void due(String what, boolean got, boolean want) {
        due(what, got ? 1 : 0, want ? 1 : 0);
    }

    protected static void tellAndExit(String whenAllHold) {
        System.out.println(wrong == 0 ? whenAllHold : wrong + " answers are not as due");
        if (wrong != 0) {
            System.exit(1);
        }
    }

    protected static int[] row(int... numbers) {
        return numbers;
    }

    /** Drafts instructions: each row is op, a, b and, if there is a fourth number, line. */
    protected static void draft(CoverageDesk desk, int[]... rows) {
        for (int[] row : rows) {
            due("add in a draft", desk.add(row[0], row[1], row[2], row.length > 3 ? row[3] : 0), true);
        }
    }

    /** Defines method m with these instructions and with the handlers that are drafted already. */
    protected static void define(CoverageDesk desk, int m, int[]... rows) {
        draft(desk, rows);
        due("define(" + m + ")", desk.define(m), rows.length);
    }

    protected static CoverageDesk deskWith(int[]... rows) {
        CoverageDesk desk = new CoverageDesk();
        define(desk, 0, rows);
        return desk;
    }

    protected static void guard(CoverageDesk desk, int from, int to, int at) {
        due("guard(" + from + ", " + to + ", " + at + ")", desk.guard(from, to, at), true);
    }

    /** Begins 3 * x + 2 instructions when run with x from 0 up, and gives y. */
    protected static void draftLoop(CoverageDesk desk) {
        draft(desk, row(ZERO, 0, 3, 1), row(ADD, 0, -1, 2), row(GO, 0, 0, 2), row(GIVE, 1, 0, 3));
    }

    protected static CoverageDesk deskWithLoop() {
        CoverageDesk desk = new CoverageDesk();
        draftLoop(desk);
        due("define(0)", desk.define(0), 4);
        return desk;
    }

    /** A full method with 44 different stretches: x from 0 to 10 and y from 0 to 3 tell which one is gone. */
    protected static void draftMaze(CoverageDesk desk) {
        // Both ways of each BELOW are to the next: where x falls below 0 tells the stretch.
        for (int i = 0; i < 20; i += 2) {
            draft(desk, row(ADD, 0, -1), row(BELOW, 0, i + 2));
        }
        draft(desk, row(CHOICE, 1, 21), row(ADD, 0, 0), row(ADD, 0, 0), row(ADD, 0, 0));
    }

    protected static void runs(CoverageDesk desk, int x, int y, int how, int result) {
        runsMethod(desk, 0, x, y, how, result);
    }

    protected static void runsMethod(CoverageDesk desk, int m, int x, int y, int how, int result) {
        String call = "run(" + m + ", " + x + ", " + y + ")";
        due(call, desk.run(m, x, y), how);
        due("result() after " + call, desk.result(), result);
    }

    /** That every call about method m is BAD. */
    protected static void refusesMethod(CoverageDesk desk, int m) {
        due("begun(" + m + ", 0)", desk.begun(m, 0), BAD);
        due("taken(" + m + ", 0, 0)", desk.taken(m, 0, 0), BAD);
        due("thrown(" + m + ", 0)", desk.thrown(m, 0), BAD);
        due("counters(" + m + ")", desk.counters(m), BAD);
        due("stretches(" + m + ")", desk.stretches(m), BAD);
        for (int what = 0; what < 4; what++) {
            due("stretch(" + m + ", 0, " + what + ")", desk.stretch(m, 0, what), BAD);
        }
        due("line(" + m + ", 0)", desk.line(m, 0), BAD);
        due("reset(" + m + ")", desk.reset(m), BAD);
        due("run(" + m + ", 1, 2)", desk.run(m, 1, 2), BAD);
    }

    /** How often each instruction of method m was begun, and that there are no more of them. */
    protected static void begunIs(CoverageDesk desk, int m, int... numbers) {
        for (int i = 0; i < numbers.length; i++) {
            due("begun(" + m + ", " + i + ")", desk.begun(m, i), numbers[i]);
        }
        due("begun(" + m + ", " + numbers.length + ")", desk.begun(m, numbers.length), BAD);
    }

    /** How often each way on from instruction i was taken, and that there are no more of them. */
    protected static void takenIs(CoverageDesk desk, int m, int i, int... numbers) {
        for (int k = 0; k < numbers.length; k++) {
            due("taken(" + m + ", " + i + ", " + k + ")", desk.taken(m, i, k), numbers[k]);
        }
        due("taken(" + m + ", " + i + ", " + numbers.length + ")", desk.taken(m, i, numbers.length), BAD);
    }

    /** Of stretch k: how often it was gone, how many instructions it has, its first and its last one. */
    protected static void stretchIs(CoverageDesk desk, int m, int k, int... numbers) {
        for (int what = 0; what < 4; what++) {
            due("stretch(" + m + ", " + k + ", " + what + ")", desk.stretch(m, k, what), numbers[what]);
        }
    }

    protected static void stretchesAre(CoverageDesk desk, int m, int[]... each) {
        due("stretches(" + m + ")", desk.stretches(m), each.length);
        for (int k = 0; k < each.length; k++) {
            stretchIs(desk, m, k, each[k]);
        }
    }

    /** Makes the LOAD, and what these methods count, that many times as much, by way of slot 0. */
    protected static void multiplyLoad(CoverageDesk desk, int methods, int factor) {
        due("keep(0)", desk.keep(0), true);
        for (int n = 1; n < factor; n++) {
            due("merge(0) on the way to a high LOAD", desk.merge(0), methods);
        }
    }

    protected static void multiplyLoadByAMillion(CoverageDesk desk, int methods) {
        for (int digit = 0; digit < 6; digit++) {
            multiplyLoad(desk, methods, 5);
            multiplyLoad(desk, methods, 2);
        }
    }

    /** Slots 1 and 2 keep the LOADs 0 and 1; method 3 gives x and begins one instruction. */
    protected static CoverageDesk deskWithMeasure() {
        CoverageDesk desk = new CoverageDesk();
        define(desk, 3, row(GIVE, 0, 0));
        due("keep(1)", desk.keep(1), true);
        runsMethod(desk, 3, 7, 0, OK, 7);
        due("keep(2)", desk.keep(2), true);
        return desk;
    }

    /** That the LOAD is 1000: a million times as much and one more is too much by that one alone. */
    protected static void loadIsThousand(CoverageDesk desk, int methods) {
        multiplyLoadByAMillion(desk, methods);
        due("merge(2), 1 too much", desk.merge(2), BAD);
        due("merge(1), nothing more", desk.merge(1) != BAD, true);
    }

    /** That these calls, refused or not, leave all data, all stretches and the result as they are. */
    protected static void leavesAll(String what, CoverageDesk desk, Runnable calls) {
        String before = allDataOf(desk);
        calls.run();
        due(what + " leaves all as it is", allDataOf(desk).equals(before), true);
    }

    private static String allDataOf(CoverageDesk desk) {
        StringBuilder all = new StringBuilder("result " + desk.result());
        for (int m = 0; m < 4; m++) {
            int stretches = desk.stretches(m);
            all.append("\nmethod ").append(m).append(", stretches ").append(stretches);
            for (int k = 0; k < stretches; k++) {
                for (int what = 0; what < 4; what++) {
                    all.append(' ').append(desk.stretch(m, k, what));
                }
            }
            for (int i = 0; stretches != BAD && desk.begun(m, i) != BAD; i++) {
                all.append("\n ").append(i).append(' ').append(desk.begun(m, i)).append(' ').append(desk.thrown(m, i));
                for (int k = 0; desk.taken(m, i, k) != BAD; k++) {
                    all.append(' ').append(desk.taken(m, i, k));
                }
            }
        }
        return all.toString();
    }
}
