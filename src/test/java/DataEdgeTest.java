/** Each sentence of promises 13 to 17 that names a boundary case, and each refused call. */
public final class DataEdgeTest extends Checks {
    public static void main(String[] args) {
        about("13: 0 there are none; 1 none was begun", DataEdgeTest::lineOfNone);
        about("13: 2 some was, but not all; 3 all", DataEdgeTest::lineOfSome);
        about("13: not all ways of all of them, of a ZERO, BELOW and CHOICE alone", DataEdgeTest::lineWays);
        about("13: BAD if line is outside 0..15 or the method is not there", DataEdgeTest::lineOutside);
        about("14: all data of method m is 0, no stretches", DataEdgeTest::resets);
        about("14: BAD if it is not there; else OK", DataEdgeTest::resetOfNone);
        about("15: keeps all methods with their data", DataEdgeTest::keeps);
        about("15: (but no stretches)", DataEdgeTest::keepsNoStretches);
        about("15: false if it is outside", DataEdgeTest::keepOutside);
        about("16: adds to the data what was kept", DataEdgeTest::mergeAdds);
        about("16: as it is now, the same instructions and lines", DataEdgeTest::mergeOfTheSame);
        about("16: as it is now, the same handlers", DataEdgeTest::mergeOfTheSameHandlers);
        about("16: how many methods", DataEdgeTest::mergesHowMany);
        about("16: to the LOAD is added what it was at that keep", DataEdgeTest::mergeAddsLoad);
        about("16: BAD, and nothing changes, if slot is outside or nothing was kept there", DataEdgeTest::mergeOfNone);
        about("16: BAD, and nothing changes, if the LOAD would be above 1000000000", DataEdgeTest::mergeAboveLoad);
        about("17: not there is tested before the 6 invocations", DataEdgeTest::orderOfTests);
        tellAndExit("all edges of promises 13 to 17 hold");
    }

    private static void lineOfNone() {
        CoverageDesk desk = deskWith(row(ADD, 0, 0, 0), row(ADD, 0, 0, 7), row(GIVE, 0, 0, 15), row(THROW, 0, 0, 8));
        for (int line = 0; line < 16; line++) {
            due("line(0, " + line + ")", desk.line(0, line), line == 0 || line == 7 || line == 8 || line == 15 ? 1 : 0);
        }
        runs(desk, 5, 6, OK, 5);
        for (int line = 0; line < 16; line++) {
            due("line(0, " + line + ")", desk.line(0, line), line == 0 || line == 7 || line == 15 ? 3 : line == 8 ? 1 : 0);
        }
        // Lines are those of the method now, not of one before nor of another one.
        define(desk, 0, row(GIVE, 0, 0, 3));
        define(desk, 1, row(GIVE, 0, 0, 4));
        runs(desk, 5, 6, OK, 5);
        for (int line = 0; line < 16; line++) {
            due("line(0, " + line + ")", desk.line(0, line), line == 3 ? 3 : 0);
            due("line(1, " + line + ")", desk.line(1, line), line == 4 ? 1 : 0);
        }
    }

    private static void lineOfSome() {
        // All 24 in one line: the last one is begun in the second run alone.
        CoverageDesk desk = new CoverageDesk();
        for (int i = 0; i < 22; i++) {
            draft(desk, row(ADD, 2, 1, 9));
        }
        draft(desk, row(ZERO, 0, 24, 9), row(GIVE, 2, 0, 9));
        due("define(0)", desk.define(0), 24);
        due("line(0, 9)", desk.line(0, 9), 1);
        runs(desk, 0, 0, OK, 0);
        due("line(0, 9), 23 begun", desk.line(0, 9), 2);
        runs(desk, 1, 0, OK, 22);
        due("line(0, 9), all begun", desk.line(0, 9), 3);
        // The first of two alone, and the last of two alone.
        desk = deskWith(row(ZERO, 0, 3, 0), row(ADD, 0, 0, 1), row(GIVE, 0, 0, 2), row(ADD, 0, 0, 2), row(THROW, 0, 0, 1));
        runs(desk, 1, 0, OK, 1);
        due("line(0, 1), the first begun", desk.line(0, 1), 2);
        due("line(0, 2), the first begun", desk.line(0, 2), 2);
        due("reset(0)", desk.reset(0), OK);
        runs(desk, 0, 0, THROWN, 0);
        due("line(0, 1), the last begun", desk.line(0, 1), 2);
        due("line(0, 2), the last begun", desk.line(0, 2), 2);
        runs(desk, 1, 0, OK, 1);
        for (int line = 0; line < 3; line++) {
            due("line(0, " + line + "), both begun", desk.line(0, line), 3);
        }
        // An instruction cut off by LONG behind it, or left by an exception, was begun.
        desk = deskWith(row(GO, 0, 0, 5));
        runs(desk, 0, 0, LONG, 0);
        due("line(0, 5), a GO to itself", desk.line(0, 5), 3);
        desk = deskWith(row(CALL, 0, 0, 5), row(GIVE, 0, 0, 6));
        runs(desk, 0, 0, THROWN, -2);
        due("line(0, 5), a CALL that threw", desk.line(0, 5), 3);
        due("line(0, 6)", desk.line(0, 6), 1);
    }

    /** A line is 3 only when the last of the ways, in whatever order, has been taken. */
    private static void lineOfBranch(int op, int... inputs) {
        for (int last = 0; last < inputs.length; last++) {
            CoverageDesk desk = deskWith(row(op, 0, 24, 2), row(ADD, 0, 0, 3));
            for (int n = 0; n < inputs.length; n++) {
                if (n != last) {
                    runs(desk, inputs[n], 0, OK, 0);
                    runs(desk, inputs[n], 0, OK, 0);
                    due("line(0, 2), a way of op " + op + " missing", desk.line(0, 2), 2);
                }
            }
            runs(desk, inputs[last], 0, OK, 0);
            due("line(0, 2), all ways of op " + op, desk.line(0, 2), 3);
        }
    }

    private static void lineWays() {
        lineOfBranch(ZERO, 0, 1);
        lineOfBranch(BELOW, 0, -1);
        lineOfBranch(CHOICE, 0, 1, 2, 3);
        // Ways that lead to the same place are still two.
        CoverageDesk desk = deskWith(row(ZERO, 0, 1, 2), row(GIVE, 0, 0, 2));
        runs(desk, 0, 0, OK, 0);
        due("line(0, 2), both to the next", desk.line(0, 2), 2);
        runs(desk, 1, 0, OK, 1);
        due("line(0, 2), both taken", desk.line(0, 2), 3);
        // Two branches in a line: all ways of both.
        desk = deskWith(row(ZERO, 0, 1, 2), row(BELOW, 0, 2, 2), row(GIVE, 0, 0, 2));
        runs(desk, 0, 0, OK, 0);
        runs(desk, 1, 0, OK, 1);
        due("line(0, 2), one of two", desk.line(0, 2), 2);
        runs(desk, -1, 0, OK, -1);
        due("line(0, 2), both", desk.line(0, 2), 3);
        // Of other instructions the way need not be taken: each of these throws.
        for (int[] one : new int[][] {row(CALL, 1, 3, 4), row(PART, 0, 2, 4), row(THROW, 0, 0, 4)}) {
            desk = deskWith(one, row(GIVE, 0, 0, 5));
            due("run(0, 5, 6)", desk.run(0, 5, 6), THROWN);
            due("line(0, 4) of op " + one[0], desk.line(0, 4), 3);
        }
        desk = deskWith(row(CALL, 0, 1, 4), row(GIVE, 0, 0, 5));
        define(desk, 1, row(GO, 0, 0, 4));
        runs(desk, 5, 6, LONG, 0);
        due("line(0, 4) of a CALL cut off", desk.line(0, 4), 3);
    }

    private static void lineOutside() {
        CoverageDesk desk = deskWith(row(GIVE, 0, 0, 0), row(GIVE, 0, 0, 15));
        runs(desk, 5, 6, OK, 5);
        leavesAll("line", desk, () -> {
            for (int line : row(MIN, -16, -1, 16, 17, MAX)) {
                due("line(0, " + line + ")", desk.line(0, line), BAD);
                due("line(1, " + line + ")", desk.line(1, line), BAD);
                due("line(4, " + line + ")", desk.line(4, line), BAD);
            }
            for (int m : row(MIN, -1, 1, 2, 3, 4, MAX)) {
                due("line(" + m + ", 0)", desk.line(m, 0), BAD);
                due("line(" + m + ", 15)", desk.line(m, 15), BAD);
            }
            due("line(0, 0)", desk.line(0, 0), 3);
            due("line(0, 15)", desk.line(0, 15), 1);
        });
    }

    /** Every kind of data in method m: with x from 0 to 3 all ways of its CHOICE, an exception with x 1. */
    private static void draftAllKinds(CoverageDesk desk) {
        guard(desk, 1, 1, 2);
        draft(desk, row(CHOICE, 0, 1, 1), row(PART, 1, 2, 2), row(ADD, 0, 0, 3), row(GIVE, 0, 0, 4));
    }

    private static void defineAllKinds(CoverageDesk desk, int m) {
        draftAllKinds(desk);
        due("define(" + m + ")", desk.define(m), 4);
    }

    private static void runAllKinds(CoverageDesk desk, int m) {
        for (int x = 0; x < 4; x++) {
            for (int n = 0; n <= x; n++) {
                due("run(" + m + ", " + x + ", 6)", desk.run(m, x, 6), OK);
            }
        }
    }

    /** What runAllKinds counts, so many times: x is 0 once, 1 twice, 2 three times, 3 four times. */
    private static void allKindsAre(CoverageDesk desk, int m, int times) {
        begunIs(desk, m, 10 * times, 3 * times, 6 * times, 10 * times);
        takenIs(desk, m, 0, times, 2 * times, 3 * times, 4 * times);
        takenIs(desk, m, 1, 0);
        takenIs(desk, m, 2, 6 * times);
        takenIs(desk, m, 3, 10 * times);
        due("thrown(" + m + ", 0)", desk.thrown(m, 0), 0);
        due("thrown(" + m + ", 1)", desk.thrown(m, 1), 3 * times);
        due("thrown(" + m + ", 2)", desk.thrown(m, 2), 0);
    }

    private static void resets() {
        CoverageDesk desk = new CoverageDesk();
        for (int m = 0; m < 4; m++) {
            defineAllKinds(desk, m);
            runAllKinds(desk, m);
        }
        due("keep(0)", desk.keep(0), true);
        int result = desk.result();
        for (int m : row(3, 0)) {
            allKindsAre(desk, m, 1);
            due("reset(" + m + ")", desk.reset(m), OK);
            allKindsAre(desk, m, 0);
            stretchesAre(desk, m);
            due("stretch(" + m + ", 0, 0)", desk.stretch(m, 0, 0), BAD);
            due("line(" + m + ", 1)", desk.line(m, 1), 1);
            due("reset(" + m + ") of none", desk.reset(m), OK);
        }
        // The others, the result, the method itself and what was kept stay.
        allKindsAre(desk, 1, 1);
        allKindsAre(desk, 2, 1);
        due("stretches(1)", desk.stretches(1), 5);
        due("result()", desk.result(), result);
        due("merge(0)", desk.merge(0), 4);
        allKindsAre(desk, 3, 1);
        allKindsAre(desk, 1, 2);
        due("reset(3)", desk.reset(3), OK);
        runAllKinds(desk, 3);
        allKindsAre(desk, 3, 1);
        due("stretches(3)", desk.stretches(3), 5);
    }

    private static void resetOfNone() {
        CoverageDesk desk = deskWithLoop();
        runs(desk, 2, 6, OK, 6);
        draft(desk, row(GIVE, 0, 0));
        leavesAll("a refused reset", desk, () -> {
            for (int m : row(MIN, -1, 1, 2, 3, 4, MAX)) {
                due("reset(" + m + ")", desk.reset(m), BAD);
            }
        });
        due("define(3), the draft having stayed", desk.define(3), 1);
        due("reset(3)", desk.reset(3), OK);
        due("define(3)", desk.define(3), 0);
        due("reset(3)", desk.reset(3), BAD);
    }

    private static void keeps() {
        CoverageDesk desk = new CoverageDesk();
        for (int m = 0; m < 4; m++) {
            defineAllKinds(desk, m);
            for (int n = 0; n < m; n++) {
                runAllKinds(desk, m);
            }
        }
        // Before any of it is kept, and with what was kept first.
        due("keep(0)", desk.keep(0), true);
        runAllKinds(desk, 0);
        due("keep(2)", desk.keep(2), true);
        for (int m = 0; m < 4; m++) {
            allKindsAre(desk, m, m == 0 ? 1 : m);
        }
        for (int m = 0; m < 4; m++) {
            due("reset(" + m + ")", desk.reset(m), OK);
        }
        due("merge(0)", desk.merge(0), 4);
        for (int m = 0; m < 4; m++) {
            allKindsAre(desk, m, m);
        }
        due("merge(2)", desk.merge(2), 4);
        allKindsAre(desk, 0, 1);
        allKindsAre(desk, 3, 6);
        // Kept anew it is what it is now, and nothing of before.
        due("reset(0)", desk.reset(0), OK);
        due("define(3)", desk.define(3), 0);
        due("keep(0)", desk.keep(0), true);
        defineAllKinds(desk, 3);
        due("merge(0), method 3 being kept no more", desk.merge(0), 3);
        allKindsAre(desk, 0, 0);
        allKindsAre(desk, 1, 4);
        allKindsAre(desk, 3, 0);
        due("merge(2), where it is still kept", desk.merge(2), 4);
        allKindsAre(desk, 3, 3);
        keepsInEachSlot();
    }

    private static void keepsInEachSlot() {
        CoverageDesk desk = deskWithLoop();
        draft(desk, row(GIVE, 0, 0));
        guard(desk, 0, 0, 0);
        for (int slot = 0; slot < 3; slot++) {
            runs(desk, 0, 6, OK, 6);
            due("keep(" + slot + ")", desk.keep(slot), true);
        }
        for (int slot = 2; slot >= 0; slot--) {
            due("reset(0)", desk.reset(0), OK);
            due("merge(" + slot + ")", desk.merge(slot), 1);
            begunIs(desk, 0, slot + 1, 0, 0, slot + 1);
        }
        due("define(1), the draft having stayed", desk.define(1), 1);
        // A full method goes whole into a slot and back.
        CoverageDesk full = new CoverageDesk();
        for (int m = 0; m < 4; m++) {
            draftMaze(full);
            due("define(" + m + ")", full.define(m), 24);
            due("run", full.run(m, 5, 3), OK);
        }
        due("keep(2)", full.keep(2), true);
        for (int m = 0; m < 4; m++) {
            due("reset(" + m + ")", full.reset(m), OK);
        }
        due("merge(2)", full.merge(2), 4);
        for (int m = 0; m < 4; m++) {
            due("begun(" + m + ", 0)", full.begun(m, 0), 1);
            due("begun(" + m + ", 22)", full.begun(m, 22), 0);
            due("begun(" + m + ", 23)", full.begun(m, 23), 1);
            takenIs(full, m, 23, 1);
            takenIs(full, m, 20, 0, 0, 0, 1);
        }
    }

    private static void keepsNoStretches() {
        CoverageDesk desk = deskWithLoop();
        runs(desk, 2, 6, OK, 6);
        due("keep(1)", desk.keep(1), true);
        stretchesAre(desk, 0, row(2, 3, 0, 2), row(1, 2, 0, 3));
        due("merge(1)", desk.merge(1), 1);
        begunIs(desk, 0, 6, 4, 4, 2);
        stretchesAre(desk, 0, row(2, 3, 0, 2), row(1, 2, 0, 3));
        due("reset(0)", desk.reset(0), OK);
        due("merge(1)", desk.merge(1), 1);
        begunIs(desk, 0, 3, 2, 2, 1);
        stretchesAre(desk, 0);
        // Those of the time since stay, too.
        due("reset(0)", desk.reset(0), OK);
        runs(desk, 0, 6, OK, 6);
        due("merge(1)", desk.merge(1), 1);
        stretchesAre(desk, 0, row(1, 2, 0, 3));
    }

    private static void keepOutside() {
        CoverageDesk desk = deskWithLoop();
        runs(desk, 2, 6, OK, 6);
        for (int slot = 0; slot < 3; slot++) {
            due("keep(" + slot + ")", desk.keep(slot), true);
        }
        runs(desk, 2, 6, OK, 6);
        leavesAll("a refused keep", desk, () -> {
            for (int slot : FAR_SLOTS) {
                due("keep(" + slot + ")", desk.keep(slot), false);
            }
        });
        // What was kept is what it was before.
        for (int slot = 0; slot < 3; slot++) {
            due("reset(0)", desk.reset(0), OK);
            due("merge(" + slot + ")", desk.merge(slot), 1);
            begunIs(desk, 0, 3, 2, 2, 1);
        }
        // Nothing is kept anywhere by a refused one, and without methods there is still something kept.
        CoverageDesk bare = new CoverageDesk();
        for (int slot : FAR_SLOTS) {
            due("keep(" + slot + ")", bare.keep(slot), false);
        }
        for (int slot = 0; slot < 3; slot++) {
            due("merge(" + slot + ")", bare.merge(slot), BAD);
            due("keep(" + slot + ")", bare.keep(slot), true);
            due("merge(" + slot + ")", bare.merge(slot), 0);
        }
    }

    private static void mergeAdds() {
        CoverageDesk desk = new CoverageDesk();
        defineAllKinds(desk, 0);
        runAllKinds(desk, 0);
        due("keep(1)", desk.keep(1), true);
        for (int times = 2; times <= 4; times++) {
            due("merge(1)", desk.merge(1), 1);
            allKindsAre(desk, 0, times);
        }
        runAllKinds(desk, 0);
        allKindsAre(desk, 0, 5);
        due("line(0, 1)", desk.line(0, 1), 3);
        // Defined anew as it was, it gets what was kept for it; line goes by that, too.
        defineAllKinds(desk, 0);
        allKindsAre(desk, 0, 0);
        due("line(0, 1)", desk.line(0, 1), 1);
        due("merge(1)", desk.merge(1), 1);
        allKindsAre(desk, 0, 1);
        due("line(0, 1)", desk.line(0, 1), 3);
        due("result()", desk.result(), 3);
        // Kept without data, it counts as a method and adds nothing.
        due("reset(0)", desk.reset(0), OK);
        due("keep(1)", desk.keep(1), true);
        runAllKinds(desk, 0);
        due("merge(1)", desk.merge(1), 1);
        allKindsAre(desk, 0, 1);
    }

    /** A full method of ADDs, in which one number of instruction i may be another. */
    private static void defineFull(CoverageDesk desk, int i, int number) {
        for (int n = 0; n < 24; n++) {
            int[] one = row(ADD, 1, 5, 7);
            if (n == i) {
                one[number]++;
            }
            draft(desk, one);
        }
        due("define(0)", desk.define(0), 24);
    }

    private static void mergeOfTheSame() {
        // Op, a, b and line of the first and of the last instruction.
        for (int i : row(0, 23)) {
            CoverageDesk desk = new CoverageDesk();
            defineFull(desk, -1, 0);
            runs(desk, 5, 6, OK, 0);
            due("keep(0)", desk.keep(0), true);
            for (int number = 0; number < 4; number++) {
                defineFull(desk, i, number);
                due("merge(0), number " + number + " of " + i + " being another", desk.merge(0), 0);
                due("begun(0, 0)", desk.begun(0, 0), 0);
                due("begun(0, 23)", desk.begun(0, 23), 0);
                defineFull(desk, -1, 0);
                due("merge(0) of the same", desk.merge(0), 1);
                due("begun(0, 0)", desk.begun(0, 0), 1);
                due("begun(0, 23)", desk.begun(0, 23), 1);
            }
        }
        // One instruction fewer and one more.
        for (int size = 1; size <= 3; size++) {
            CoverageDesk desk = deskWith(row(ADD, 0, 1, 0), row(ADD, 0, 1, 0));
            runs(desk, 5, 6, OK, 0);
            due("keep(0)", desk.keep(0), true);
            for (int i = 0; i < size; i++) {
                draft(desk, row(ADD, 0, 1, 0));
            }
            due("define(0)", desk.define(0), size);
            due("merge(0) of " + size, desk.merge(0), size == 2 ? 1 : 0);
            due("begun(0, 0)", desk.begun(0, 0), size == 2 ? 1 : 0);
        }
        // Numbers without effect are numbers, too: b & 3 is the same, and a GIVE has no b.
        for (int[] pair : new int[][] {row(MOVE, 1, 5), row(GIVE, 0, 1), row(CALL, 3, -1), row(THROW, 0, 4)}) {
            CoverageDesk desk = deskWith(row(pair[0], 0, pair[1]));
            due("keep(0)", desk.keep(0), true);
            define(desk, 0, row(pair[0], 0, pair[2]));
            due("merge(0)", desk.merge(0), 0);
        }
        // In another order, or in another method, it is not the same.
        CoverageDesk desk = deskWith(row(ADD, 0, 1), row(GIVE, 0, 0), row(GIVE, 1, 0));
        define(desk, 1, row(THROW, 0, 0));
        due("keep(0)", desk.keep(0), true);
        define(desk, 0, row(ADD, 0, 1), row(GIVE, 1, 0), row(GIVE, 0, 0));
        due("merge(0), in another order", desk.merge(0), 1);
        define(desk, 0, row(THROW, 0, 0));
        define(desk, 1, row(ADD, 0, 1), row(GIVE, 0, 0), row(GIVE, 1, 0));
        due("merge(0), one in place of the other", desk.merge(0), 0);
    }

    private static void mergeOfTheSameHandlers() {
        // Fewer, in another order, each number of each being another, and more.
        int[][][] others = {{}, {row(0, 1, 2)}, {row(3, 4, 5)}, {row(3, 4, 5), row(0, 1, 2)},
            {row(1, 1, 2), row(3, 4, 5)}, {row(0, 2, 2), row(3, 4, 5)}, {row(0, 1, 3), row(3, 4, 5)},
            {row(0, 1, 2), row(4, 4, 5)}, {row(0, 1, 2), row(3, 5, 5)}, {row(0, 1, 2), row(3, 4, 4)},
            {row(0, 1, 2), row(3, 4, 5), row(0, 0, 0)}};
        CoverageDesk desk = new CoverageDesk();
        guard(desk, 0, 1, 2);
        guard(desk, 3, 4, 5);
        define(desk, 2, row(GIVE, 0, 0));
        runsMethod(desk, 2, 5, 6, OK, 5);
        due("keep(0)", desk.keep(0), true);
        for (int n = 0; n < others.length; n++) {
            for (int[] one : others[n]) {
                guard(desk, one[0], one[1], one[2]);
            }
            define(desk, 2, row(GIVE, 0, 0));
            due("merge(0), handlers " + n, desk.merge(0), 0);
            begunIs(desk, 2, 0);
            guard(desk, 0, 1, 2);
            guard(desk, 3, 4, 5);
            define(desk, 2, row(GIVE, 0, 0));
            due("merge(0) with the same handlers", desk.merge(0), 1);
            begunIs(desk, 2, 1);
        }
        // Three handlers, the third being another, and none on either side.
        for (int at : row(2, 3)) {
            desk = new CoverageDesk();
            guard(desk, 0, 0, 1);
            guard(desk, 0, 0, 1);
            guard(desk, 0, 0, 2);
            define(desk, 0, row(GIVE, 0, 0));
            due("keep(2)", desk.keep(2), true);
            guard(desk, 0, 0, 1);
            guard(desk, 0, 0, 1);
            guard(desk, 0, 0, at);
            define(desk, 0, row(GIVE, 0, 0));
            due("merge(2)", desk.merge(2), at == 2 ? 1 : 0);
        }
        desk = deskWith(row(GIVE, 0, 0));
        due("keep(2)", desk.keep(2), true);
        guard(desk, 1, 2, 3);
        define(desk, 0, row(GIVE, 0, 0));
        due("merge(2), a handler now", desk.merge(2), 0);
        // What was drafted for another method in between is not this one's.
        define(desk, 0, row(GIVE, 0, 0));
        due("merge(2), none again", desk.merge(2), 1);
    }

    private static void mergesHowMany() {
        // Of each set of methods kept, and each set that is as it was.
        for (int kept = 0; kept < 16; kept++) {
            for (int same = 0; same < 16; same++) {
                CoverageDesk desk = new CoverageDesk();
                int due = 0;
                for (int m = 0; m < 4; m++) {
                    if ((kept >> m & 1) == 1) {
                        define(desk, m, row(GIVE, 0, m));
                        runsMethod(desk, m, 5, 6, OK, 5);
                    }
                }
                due("keep(1)", desk.keep(1), true);
                for (int m = 0; m < 4; m++) {
                    define(desk, m, row(GIVE, 0, m + 1 - (same >> m & 1)));
                    due += kept >> m & same >> m & 1;
                }
                due("merge(1), kept " + kept + ", same " + same, desk.merge(1), due);
                for (int m = 0; m < 4; m++) {
                    begunIs(desk, m, kept >> m & same >> m & 1);
                }
            }
        }
        // Not there then and not there now is no method, nor is one that is gone.
        CoverageDesk desk = deskWith(row(GIVE, 0, 0));
        due("keep(0)", desk.keep(0), true);
        due("merge(0)", desk.merge(0), 1);
        due("define(0)", desk.define(0), 0);
        due("merge(0)", desk.merge(0), 0);
        due("run(0, 0, 0)", desk.run(0, 0, 0), BAD);
        guard(desk, 0, 0, 0);
        due("define(0) of a handler alone", desk.define(0), 0);
        due("keep(0)", desk.keep(0), true);
        due("merge(0)", desk.merge(0), 0);
    }

    private static void mergeAddsLoad() {
        // 1 and 98 and 1 are 100; nine times that from the slot, and no method is the same.
        CoverageDesk desk = deskWithMeasure();
        draftLoop(desk);
        due("define(0)", desk.define(0), 4);
        runs(desk, 32, 6, OK, 6);
        runsMethod(desk, 3, 7, 0, OK, 7);
        due("keep(0)", desk.keep(0), true);
        define(desk, 0, row(GIVE, 0, 0));
        define(desk, 3, row(GIVE, 0, 1));
        for (int n = 0; n < 9; n++) {
            due("merge(0)", desk.merge(0), 0);
        }
        loadIsThousand(desk, 2);
        // What a slot adds is what the LOAD was at its latest keep, be it 0: 1 + 9 + 10 * 49 + 500.
        desk = deskWithMeasure();
        due("keep(0)", desk.keep(0), true);
        due("merge(1)", desk.merge(1), 1);
        for (int n = 0; n < 9; n++) {
            due("merge(2)", desk.merge(2), 1);
        }
        due("keep(0)", desk.keep(0), true);
        for (int n = 0; n < 49; n++) {
            due("merge(0)", desk.merge(0), 1);
        }
        due("keep(0)", desk.keep(0), true);
        due("merge(0)", desk.merge(0), 1);
        begunIs(desk, 3, 1000);
        // Refused calls, resets and keeps add nothing and take nothing.
        for (int slot : FAR_SLOTS) {
            due("merge(" + slot + ")", desk.merge(slot), BAD);
            due("keep(" + slot + ")", desk.keep(slot), false);
        }
        for (int m : FAR_METHODS) {
            due("run(" + m + ", 0, 0)", desk.run(m, 0, 0), BAD);
        }
        due("reset(3)", desk.reset(3), OK);
        define(desk, 3, row(GIVE, 0, 0));
        loadIsThousand(desk, 1);
    }

    private static void mergeOfNone() {
        CoverageDesk desk = deskWithLoop();
        runs(desk, 2, 6, OK, 6);
        for (int kept = 0; kept < 3; kept++) {
            int used = kept;
            leavesAll("a refused merge", desk, () -> {
                for (int slot : FAR_SLOTS) {
                    due("merge(" + slot + ")", desk.merge(slot), BAD);
                }
                for (int slot = used; slot < 3; slot++) {
                    due("merge(" + slot + "), nothing kept", desk.merge(slot), BAD);
                }
            });
            due("keep(" + kept + ")", desk.keep(kept), true);
        }
        // The other way round, so that each slot is tried while another one is used.
        CoverageDesk other = new CoverageDesk();
        for (int kept = 2; kept >= 0; kept--) {
            for (int slot = 0; slot <= kept; slot++) {
                due("merge(" + slot + "), nothing kept", other.merge(slot), BAD);
            }
            due("keep(" + kept + ")", other.keep(kept), true);
            due("merge(" + kept + ")", other.merge(kept), 0);
        }
        draft(other, row(GIVE, 0, 0));
        due("merge(3)", other.merge(3), BAD);
        due("define(0), the draft having stayed", other.define(0), 1);
    }

    /** The LOAD is 1000000000, all of it begun by method 3 with its one instruction; slot 0 keeps half of it. */
    private static CoverageDesk deskAtTheLimit() {
        CoverageDesk desk = deskWithMeasure();
        multiplyLoad(desk, 1, 10);
        multiplyLoad(desk, 1, 10);
        multiplyLoad(desk, 1, 10);
        multiplyLoadByAMillion(desk, 1);
        begunIs(desk, 3, 1000000000);
        return desk;
    }

    private static void mergeAboveLoad() {
        CoverageDesk desk = deskAtTheLimit();
        define(desk, 0, row(GIVE, 0, 0));
        leavesAll("a merge above 1000000000", desk, () -> {
            due("merge(0), half too much", desk.merge(0), BAD);
            due("merge(2), 1 too much", desk.merge(2), BAD);
            due("merge(1), nothing more", desk.merge(1), 1);
            due("merge(0), half too much", desk.merge(0), BAD);
        });
        takenIs(desk, 3, 0, 1000000000);
        // The LOAD has not changed: one run may begin, and no other one.
        runsMethod(desk, 3, 8, 0, OK, 8);
        begunIs(desk, 3, 1000000001);
        leavesAll("a merge when the LOAD is above already", desk, () -> {
            due("merge(1), nothing more", desk.merge(1), BAD);
            due("merge(2)", desk.merge(2), BAD);
            due("run(3, 9, 0)", desk.run(3, 9, 0), BAD);
            due("keep(1), what is above", desk.keep(1), true);
            due("merge(1)", desk.merge(1), BAD);
        });
        // 500000000 twice is all right; with one more begun between it is too much, and then the 1 is not.
        for (int more = 0; more <= 1; more++) {
            CoverageDesk half = deskWithMeasure();
            for (int digit = 0; digit < 8; digit++) {
                multiplyLoad(half, 1, 10);
            }
            multiplyLoad(half, 1, 5);
            due("keep(0)", half.keep(0), true);
            begunIs(half, 3, 500000000);
            if (more == 1) {
                runsMethod(half, 3, 8, 0, OK, 8);
            }
            due("merge(0)", half.merge(0), more == 1 ? BAD : 1);
            begunIs(half, 3, more == 1 ? 500000001 : 1000000000);
            due("merge(2)", half.merge(2), more == 1 ? 1 : BAD);
            begunIs(half, 3, more == 1 ? 500000002 : 1000000000);
        }
    }

    private static void orderOfTests() {
        // Method 0 calls itself y times and then method 1: with y 5 that is by the sixth invocation.
        CoverageDesk desk = deskWith(row(ZERO, 1, 4), row(ADD, 1, -1), row(CALL, 0, 0), row(GIVE, 0, 0), row(CALL, 0, 1),
                row(GIVE, 0, 0));
        for (int y = 0; y <= 5; y++) {
            runs(desk, 9, y, THROWN, -1);
        }
        runs(desk, 9, 6, THROWN, -2);
        define(desk, 1, row(GIVE, 0, 0));
        for (int y = 0; y <= 4; y++) {
            runs(desk, 9, y, OK, 9);
        }
        runs(desk, 9, 5, THROWN, -2);
        due("define(1)", desk.define(1), 0);
        runs(desk, 9, 5, THROWN, -1);
        due("define(1) of a handler alone", desk.guard(0, 0, 0) ? desk.define(1) : BAD, 0);
        runs(desk, 9, 5, THROWN, -1);
        // One exception, not two.
        due("reset(0)", desk.reset(0), OK);
        runs(desk, 9, 5, THROWN, -1);
        due("thrown(0, 4)", desk.thrown(0, 4), 1);
        due("thrown(0, 2)", desk.thrown(0, 2), 5);
    }
}
