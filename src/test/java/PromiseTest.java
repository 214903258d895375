/** For each promise of the document: ordinary inputs, the edges that it names, and wrong inputs. */
public final class PromiseTest extends Checks {
    public static void main(String[] args) {
        Runnable[] promises = {PromiseTest::aNewObject, PromiseTest::add, PromiseTest::guard, PromiseTest::define,
            PromiseTest::run, PromiseTest::result, PromiseTest::begun, PromiseTest::taken, PromiseTest::thrown,
            PromiseTest::counters, PromiseTest::stretches, PromiseTest::stretch, PromiseTest::line,
            PromiseTest::reset, PromiseTest::keep, PromiseTest::merge, PromiseTest::orderAndLimits};
        for (int n = 0; n < promises.length; n++) {
            about("promise " + (n + 1), promises[n]);
        }
        tellAndExit("all promises hold");
    }

    private static void aNewObject() {
        CoverageDesk desk = new CoverageDesk();
        for (int m = -1; m <= 4; m++) {
            due("run", desk.run(m, 0, 0), BAD);
            due("begun", desk.begun(m, 0), BAD);
            due("taken", desk.taken(m, 0, 0), BAD);
            due("thrown", desk.thrown(m, 0), BAD);
            due("counters", desk.counters(m), BAD);
            due("stretches", desk.stretches(m), BAD);
            due("stretch", desk.stretch(m, 0, 0), BAD);
            due("line", desk.line(m, 0), BAD);
            due("reset", desk.reset(m), BAD);
        }
        for (int slot = 0; slot < 3; slot++) {
            due("merge", desk.merge(slot), BAD);
        }
        due("result", desk.result(), 0);
        due("define, the draft being empty", desk.define(0), 0);
    }

    private static void add() {
        CoverageDesk desk = new CoverageDesk();
        for (int[] bad : new int[][] {row(-1, 0, 0), row(12, 0, 0), row(MIN, 0, 0), row(MAX, 0, 0), row(0, -1, 0),
            row(0, 4, 0), row(0, MIN, 0), row(0, MAX, 0), row(0, 0, -1), row(0, 0, 16), row(0, 0, MIN), row(0, 0, MAX)}) {
            due("add of wrong numbers", desk.add(bad[0], bad[1], 0, bad[2]), false);
        }
        for (int op = 0; op <= 11; op++) {
            due("add of op " + op, desk.add(op, 3, MIN, 15), true);
            due("add of op " + op, desk.add(op, 0, MAX, 0), true);
        }
        due("add of a 25th", desk.add(0, 0, 0, 0), false);
        due("add of a wrong 25th", desk.add(12, 0, 0, 0), false);
        due("define of 24", desk.define(3), 24);
        due("add to the new draft", desk.add(0, 0, 0, 0), true);
        due("define of 1", desk.define(3), 1);
    }

    private static void guard() {
        CoverageDesk desk = new CoverageDesk();
        for (int[] bad : new int[][] {row(-1, 0, 0), row(MIN, 0, 0), row(24, 24, 0), row(0, 24, 0), row(0, MAX, 0),
            row(0, 0, -1), row(0, 0, 24), row(0, 0, MIN), row(0, 0, MAX), row(1, 0, 0), row(23, 22, 0), row(-2, -1, 0)}) {
            due("guard of wrong numbers", desk.guard(bad[0], bad[1], bad[2]), false);
        }
        due("guard(23, 23, 23)", desk.guard(23, 23, 23), true);
        due("guard(0, 0, 1)", desk.guard(0, 0, 1), true);
        due("guard(0, 23, 0)", desk.guard(0, 23, 0), true);
        due("a fourth", desk.guard(0, 0, 0), false);
        draft(desk, row(THROW, 1, 0), row(GIVE, 0, 0));
        desk.define(0);
        runs(desk, 5, 7, OK, 7);
        due("the first handler around it", desk.begun(0, 1), 1);

        draft(desk, row(THROW, 1, 0), row(THROW, 1, 0), row(THROW, 1, 0), row(THROW, 1, 0), row(GIVE, 0, 0));
        due("guard(1, 2, 4)", desk.guard(1, 2, 4), true);
        desk.define(0);
        runs(desk, 0, 9, THROWN, 9);
        draft(desk, row(CHOICE, 0, 1), row(THROW, 1, 0), row(THROW, 1, 0), row(THROW, 1, 0), row(ADD, 0, 1), row(GIVE, 0, 0));
        due("guard(2, 3, 4)", desk.guard(2, 3, 4), true);
        desk.define(0);
        runs(desk, 1, 9, THROWN, 9);
        runs(desk, 2, 9, OK, 10);
        runs(desk, 3, 9, OK, 10);
    }

    private static void define() {
        CoverageDesk desk = new CoverageDesk();
        draftLoop(desk);
        for (int m : row(-1, 4, MIN, MAX)) {
            due("define(" + m + ")", desk.define(m), BAD);
        }
        due("define(3), the draft having stayed", desk.define(3), 4);
        due("define(2), the draft being empty", desk.define(2), 0);
        due("run(2, 0, 0)", desk.run(2, 0, 0), BAD);
        due("run(3, 2, 6)", desk.run(3, 2, 6), OK);
        draftLoop(desk);
        due("begun before", desk.begun(3, 0), 3);
        due("stretches before", desk.stretches(3), 2);
        due("define(3)", desk.define(3), 4);
        due("begun, newly defined", desk.begun(3, 0), 0);
        due("taken, newly defined", desk.taken(3, 0, 0), 0);
        due("stretches, newly defined", desk.stretches(3), 0);

        // The handlers of a draft go with it, too.
        draft(desk, row(THROW, 0, 0));
        desk.guard(0, 0, 1);
        desk.define(0);
        runs(desk, 4, 0, OK, 0);
        draft(desk, row(THROW, 0, 0));
        desk.define(0);
        runs(desk, 4, 0, THROWN, 4);
        due("thrown, newly defined", desk.thrown(0, 0), 1);
        due("guard", desk.guard(0, 0, 0), true);
        due("define of handlers alone", desk.define(0), 0);
        due("a method without instructions", desk.stretches(0), BAD);
        draft(desk, row(THROW, 0, 0));
        desk.define(0);
        runs(desk, 4, 0, THROWN, 4);
    }

    private static void run() {
        arithmetic();
        waysOn();
        calls();
        exceptions();
        longRuns();
        runsUnderLoad();
    }

    private static void arithmetic() {
        runs(deskWith(row(SET, 2, MIN), row(GIVE, 2, 0)), 1, 2, OK, MIN);
        runs(deskWith(row(ADD, 0, 1), row(GIVE, 0, 0)), MAX, 2, OK, MIN);
        runs(deskWith(row(ADD, 1, -3), row(GIVE, 1, 0)), 1, 2, OK, -1);
        runs(deskWith(row(MOVE, 3, 1), row(GIVE, 3, 0)), 1, 2, OK, 2);
        runs(deskWith(row(MOVE, 1, -4), row(GIVE, 1, 0)), 8, 2, OK, 8);
        runs(deskWith(row(SUB, 0, 5), row(GIVE, 0, 0)), 1, 2, OK, -1);
        runs(deskWith(row(SUB, 0, 1), row(GIVE, 0, 0)), MIN, 1, OK, MAX);
        runs(deskWith(row(SUB, 1, 1), row(GIVE, 1, 0)), 4, 9, OK, 0);
        runs(deskWith(row(PART, 0, 1), row(GIVE, 0, 0)), -7, 2, OK, -3);
        runs(deskWith(row(PART, 0, -3), row(GIVE, 0, 0)), 7, -2, OK, -3);
        runs(deskWith(row(PART, 0, 1), row(GIVE, 0, 0)), MIN, -1, OK, MIN);
        runs(deskWith(row(PART, 0, 1), row(GIVE, 0, 0)), 7, 0, THROWN, 0);
        runs(deskWith(row(GIVE, 2, 0)), 7, 8, OK, 0);
        runs(deskWith(row(GIVE, 3, 0)), 7, 8, OK, 0);
        // Every invocation begins with variables 2 and 3 being 0, whatever was there before.
        CoverageDesk again = deskWith(row(ADD, 2, 5), row(ADD, 3, 7), row(SUB, 3, 2), row(GIVE, 3, 0));
        runs(again, 7, 8, OK, 2);
        runs(again, 7, 8, OK, 2);
        again = deskWith(row(ADD, 2, 5), row(GIVE, 2, 0));
        runs(again, 7, 8, OK, 5);
        runs(again, 7, 8, OK, 5);
    }

    private static void waysOn() {
        runs(deskWith(row(SET, 0, 5)), 1, 2, OK, 0);
        runs(deskWith(row(GO, 0, 2), row(GIVE, 0, 0), row(GIVE, 1, 0)), 1, 2, OK, 2);
        for (int outside : row(-1, 2, MIN, MAX)) {
            runs(deskWith(row(GO, 0, outside), row(GIVE, 0, 0)), 1, 2, OK, 0);
        }
        CoverageDesk zero = deskWith(row(ZERO, 0, 2), row(GIVE, 0, 0), row(GIVE, 1, 0));
        runs(zero, 0, 9, OK, 9);
        runs(zero, 1, 9, OK, 1);
        runs(zero, -1, 9, OK, -1);
        CoverageDesk below = deskWith(row(BELOW, 0, 2), row(GIVE, 0, 0), row(GIVE, 1, 0));
        runs(below, 0, 9, OK, 0);
        runs(below, -1, 9, OK, 9);
        runs(below, MIN, 9, OK, 9);
        runs(below, MAX, 9, OK, MAX);
        CoverageDesk choice = deskWith(row(CHOICE, 0, 3), row(GO, 0, 2), row(GIVE, 1, 0), row(ADD, 0, 10), row(ADD, 0, 10),
                row(ADD, 0, 10), row(GIVE, 0, 0));
        runs(choice, 0, 9, OK, 9);
        runs(choice, 1, 9, OK, 31);
        runs(choice, 2, 9, OK, 22);
        runs(choice, 3, 9, OK, 13);
        runs(choice, 4, 9, OK, 9);
        runs(choice, -1, 9, OK, 9);
        CoverageDesk wrapping = deskWith(row(CHOICE, 0, MAX), row(GIVE, 1, 0));
        runs(wrapping, 1, 9, OK, 0);
        runs(wrapping, 2, 9, OK, 0);
        runs(wrapping, 3, 9, OK, 0);
        // Way 1 leads outside below the method, ways 2 and 3 into it.
        CoverageDesk edge = deskWith(row(CHOICE, 0, -1), row(GIVE, 1, 0));
        runs(edge, 1, 9, OK, 0);
        runs(edge, 2, 9, LONG, 0);
        runs(edge, 3, 9, OK, 9);
    }

    private static void calls() {
        CoverageDesk desk = new CoverageDesk();
        draft(desk, row(SET, 2, 50), row(SET, 3, 60), row(ADD, 0, 1), row(ADD, 1, 2), row(CALL, 2, 5), row(SUB, 2, 0),
                row(GIVE, 2, 0));
        desk.define(0);
        // Gives 1000 if variables 2 and 3 are not 0 there, else the sum of 0 and 1.
        draft(desk, row(ZERO, 2, 3), row(SET, 0, 1000), row(GIVE, 0, 0), row(ZERO, 3, 5), row(GO, 0, 1), row(SUB, 3, 1),
                row(SUB, 0, 3), row(GIVE, 0, 0));
        due("define(1)", desk.define(1), 8);
        runs(desk, 10, 20, OK, (11 + 22) - 11);
        draft(desk, row(SET, 0, 5));
        desk.define(1);
        runs(desk, 10, 20, OK, -11);
        // The callee's variables are its own.
        draft(desk, row(CALL, 3, 1), row(GIVE, 0, 0));
        desk.define(0);
        runs(desk, 10, 20, OK, 10);
        draft(desk, row(CALL, 0, -1), row(GIVE, 0, 0));
        desk.define(0);
        runs(desk, 10, 20, THROWN, -1);
        draft(desk, row(GIVE, 1, 0));
        desk.define(3);
        runs(desk, 10, 20, OK, 20);
    }

    private static void exceptions() {
        runs(deskWith(row(THROW, 1, 0)), 4, MIN, THROWN, MIN);
        CoverageDesk desk = new CoverageDesk();
        draft(desk, row(CALL, 3, 1), row(GIVE, 3, 0), row(SUB, 3, 0), row(GIVE, 3, 0));
        desk.guard(0, 0, 2);
        desk.define(0);
        draft(desk, row(CALL, 0, 2), row(GIVE, 1, 0));
        desk.define(1);
        draft(desk, row(THROW, 1, 0));
        desk.define(2);
        runs(desk, 1, 7, OK, -7);
        due("thrown where it began", desk.thrown(2, 0), 1);
        due("thrown at the CALL between", desk.thrown(1, 0), 1);
        due("thrown at the CALL where it is handled", desk.thrown(0, 0), 1);
        // A handler that leads outside ends its invocation with 0, and the CALL goes on.
        draft(desk, row(THROW, 1, 0));
        desk.guard(0, 0, 1);
        desk.define(2);
        runs(desk, 1, 7, OK, 7);
        due("the CALL goes on", desk.taken(1, 0, 0), 1);
        due("nothing is begun outside", desk.stretches(2), 1);
        // A handler around its own at: thrown again and again.
        draft(desk, row(THROW, 0, 0));
        desk.guard(0, 0, 0);
        desk.define(0);
        runs(desk, 1, 7, LONG, 0);
        due("thrown 200 times", desk.thrown(0, 0), 200);
    }

    private static void longRuns() {
        CoverageDesk desk = deskWithLoop();
        runs(desk, 66, 5, OK, 5);
        due("200 begun", desk.begun(0, 0) + desk.begun(0, 1) + desk.begun(0, 2) + desk.begun(0, 3), 200);
        runs(desk, 67, 5, LONG, 0);
        due("400 begun", desk.begun(0, 0) + desk.begun(0, 1) + desk.begun(0, 2) + desk.begun(0, 3), 400);
        // What a called method begins counts for the same run.
        draft(desk, row(CALL, 1, 0), row(GIVE, 1, 0));
        desk.define(1);
        due("run(1, 65, 5)", desk.run(1, 65, 5), OK);
        due("run(1, 66, 5)", desk.run(1, 66, 5), LONG);
        due("begun of the CALL", desk.begun(1, 0), 2);
        due("begun behind the CALL", desk.begun(1, 1), 1);
        // The 200th throws: that ends the run, but a handler's at would be one too many.
        draft(desk, row(ZERO, 0, 3), row(ADD, 0, -1), row(GO, 0, 0), row(THROW, 1, 0), row(GIVE, 1, 0));
        desk.define(0);
        runs(desk, 66, 5, THROWN, 5);
        draft(desk, row(ZERO, 0, 3), row(ADD, 0, -1), row(GO, 0, 0), row(THROW, 1, 0), row(GIVE, 1, 0));
        desk.guard(3, 3, 4);
        desk.define(0);
        runs(desk, 65, 5, OK, 5);
        runs(desk, 66, 5, LONG, 0);
        due("thrown before it was LONG", desk.thrown(0, 3), 2);
        due("not begun any more", desk.begun(0, 4), 1);
    }

    /** The LOAD becomes 1000000000, from the 125 of one run. */
    private static CoverageDesk fullDesk() {
        CoverageDesk desk = deskWithLoop();
        due("keep(2)", desk.keep(2), true);
        runs(desk, 41, 5, OK, 5);
        multiplyLoad(desk, 1, 8);
        multiplyLoadByAMillion(desk, 1);
        return desk;
    }

    private static void runsUnderLoad() {
        CoverageDesk desk = fullDesk();
        due("what was begun with the LOAD", desk.begun(0, 0) + desk.begun(0, 1) + desk.begun(0, 2) + desk.begun(0, 3),
                1000000000);
        runs(desk, 66, 6, OK, 6);
        runs(desk, 0, 7, BAD, 6);
        due("begun stays", desk.begun(0, 3), 8000000 + 1);
        due("reset", desk.reset(0), OK);
        runs(desk, 0, 7, BAD, 6);
    }

    private static void result() {
        CoverageDesk desk = deskWith(row(ZERO, 0, 3), row(BELOW, 0, 0), row(GIVE, 0, 0), row(THROW, 1, 0));
        due("before any run", desk.result(), 0);
        runs(desk, 8, 3, OK, 8);
        due("run of what is not there", desk.run(1, 4, 4), BAD);
        due("after a BAD run", desk.result(), 8);
        runs(desk, 0, 3, THROWN, 3);
        due("run outside", desk.run(4, 4, 4), BAD);
        due("after a BAD run", desk.result(), 3);
        due("reset", desk.reset(0), OK);
        due("define", desk.define(0), 0);
        due("after reset and define", desk.result(), 3);
        draft(desk, row(GO, 0, 0));
        desk.define(0);
        runs(desk, 8, 3, LONG, 0);
    }

    private static void begun() {
        CoverageDesk desk = deskWithLoop();
        runs(desk, 3, 0, OK, 0);
        due("begun(0, 0)", desk.begun(0, 0), 4);
        due("begun(0, 1)", desk.begun(0, 1), 3);
        due("begun(0, 2)", desk.begun(0, 2), 3);
        due("begun(0, 3)", desk.begun(0, 3), 1);
        for (int i : row(-1, 4, 24, MIN, MAX)) {
            due("begun(0, " + i + ")", desk.begun(0, i), BAD);
        }
        for (int m : row(-1, 1, 4, MIN, MAX)) {
            due("begun(" + m + ", 0)", desk.begun(m, 0), BAD);
        }
    }

    private static void taken() {
        CoverageDesk desk = new CoverageDesk();
        int[] ways = {1, 1, 1, 1, 1, 2, 2, 4, 1, 1, 0, 1};
        for (int op = 0; op < 12; op++) {
            draft(desk, row(op, 0, 0));
        }
        desk.define(2);
        for (int op = 0; op < 12; op++) {
            for (int k = -1; k <= 5; k++) {
                due("way " + k + " of op " + op, desk.taken(2, op, k), k >= 0 && k < ways[op] ? 0 : BAD);
            }
            due("way of op " + op, desk.taken(2, op, MAX), BAD);
            due("way of op " + op, desk.taken(2, op, MIN), BAD);
        }
        for (int i : row(-1, 12, MIN, MAX)) {
            due("taken(2, " + i + ", 0)", desk.taken(2, i, 0), BAD);
        }
        for (int m : row(-1, 0, 4, MIN, MAX)) {
            due("taken(" + m + ", 0, 0)", desk.taken(m, 0, 0), BAD);
        }
        // An exception takes no way; what it is handled by is none, either.
        desk = new CoverageDesk();
        draft(desk, row(CHOICE, 0, 1), row(PART, 0, 1), row(CALL, 0, 3), row(GIVE, 1, 0));
        desk.guard(1, 2, 3);
        desk.define(0);
        int[][] inputs = {row(1, 0), row(2, 1), row(3, 1), row(0, 1), row(7, 0)};
        for (int[] input : inputs) {
            desk.run(0, input[0], input[1]);
        }
        due("CHOICE, way 0", desk.taken(0, 0, 0), 2);
        due("CHOICE, way 1", desk.taken(0, 0, 1), 1);
        due("CHOICE, way 2", desk.taken(0, 0, 2), 1);
        due("CHOICE, way 3", desk.taken(0, 0, 3), 1);
        due("PART, begun", desk.begun(0, 1), 3);
        due("PART", desk.taken(0, 1, 0), 1);
        due("CALL, begun", desk.begun(0, 2), 2);
        due("CALL", desk.taken(0, 2, 0), 0);
        due("GIVE", desk.taken(0, 3, 0), 5);
    }

    private static void thrown() {
        CoverageDesk desk = new CoverageDesk();
        draft(desk, row(CALL, 0, 1), row(CALL, 0, 2), row(PART, 2, 3), row(GIVE, 0, 0));
        desk.guard(0, 0, 1);
        desk.guard(1, 1, 2);
        desk.define(0);
        draft(desk, row(THROW, 1, 0));
        desk.define(1);
        runs(desk, 3, 8, THROWN, 0);
        due("out of its CALL", desk.thrown(0, 0), 1);
        due("of the CALL itself", desk.thrown(0, 1), 1);
        due("of the PART", desk.thrown(0, 2), 1);
        due("of none", desk.thrown(0, 3), 0);
        due("of the THROW", desk.thrown(1, 0), 1);
        for (int i : row(-1, 4, MIN, MAX)) {
            due("thrown(0, " + i + ")", desk.thrown(0, i), BAD);
        }
        for (int m : row(-1, 2, 4, MIN, MAX)) {
            due("thrown(" + m + ", 0)", desk.thrown(m, 0), BAD);
        }
    }

    private static void counters() {
        due("a straight row", deskWith(row(SET, 0, 0), row(GIVE, 0, 0)).counters(0), 1);
        due("a THROW alone", deskWith(row(THROW, 0, 0)).counters(0), 0);
        due("a loop", deskWithLoop().counters(0), 2);
        due("two ways to one place", deskWith(row(ZERO, 0, 1), row(GIVE, 0, 0)).counters(0), 2);
        due("all ways outside", deskWith(row(CHOICE, 0, MAX)).counters(0), 4);
        due("a CHOICE around the lower edge", deskWith(row(CHOICE, 0, -1), row(GIVE, 0, 0)).counters(0), 4);
        due("a part of its own", deskWith(row(GIVE, 0, 0), row(GO, 0, 1)).counters(0), 2);
        due("a part of its own without a line", deskWith(row(GIVE, 0, 0), row(THROW, 0, 0)).counters(0), 1);
        due("two parts of their own", deskWith(row(GIVE, 0, 0), row(THROW, 0, 0), row(SET, 0, 0), row(GO, 0, 2)).counters(0), 2);
        due("hangs together against the ways", deskWith(row(GIVE, 0, 0), row(SET, 0, 0), row(GO, 0, 0)).counters(0), 1);
        CoverageDesk desk = new CoverageDesk();
        draft(desk, row(GIVE, 0, 0), row(THROW, 0, 0));
        desk.guard(0, 0, 1);
        desk.define(0);
        due("handlers are no lines", desk.counters(0), 1);
        draft(desk, row(ADD, 0, 0), row(GO, 0, 1));
        desk.define(0);
        due("a loop without an end", desk.counters(0), 1);
        draft(desk, row(SET, 0, 0), row(GIVE, 0, 0));
        desk.define(0);
        due("a straight row, asked after another", desk.counters(0), 1);
        for (int i = 0; i < 24; i++) {
            draft(desk, row(CHOICE, 0, 0));
        }
        desk.define(1);
        due("the most", desk.counters(1), 1 + 4 * 24 - 25 + 1);
        for (int m : row(-1, 2, 4, MIN, MAX)) {
            due("counters(" + m + ")", desk.counters(m), BAD);
        }
    }

    private static void stretches() {
        waysTellApart();
        theFirstForty();
        orderOfEnds();
        CoverageDesk desk = deskWithLoop();
        for (int m : row(-1, 1, 4, MIN, MAX)) {
            due("stretches(" + m + ")", desk.stretches(m), BAD);
        }
        due("stretches without a run", desk.stretches(0), 0);
    }

    /** The ways between the instructions tell stretches apart; the way, exception or LONG at the end does not. */
    private static void waysTellApart() {
        CoverageDesk desk = deskWith(row(ZERO, 0, 1), row(BELOW, 1, 0), row(GIVE, 0, 0));
        runs(desk, 0, 0, OK, 0);
        runs(desk, 1, 0, OK, 1);
        due("by way 1 and by way 0", desk.stretches(0), 2);
        desk = deskWith(row(ZERO, 0, 9));
        runs(desk, 0, 0, OK, 0);
        runs(desk, 1, 0, OK, 0);
        due("ways at the end", desk.stretches(0), 1);
        stretchIs(desk, 0, 0, 2, 1, 0, 0);
        desk = deskWith(row(PART, 0, 1));
        runs(desk, 1, 0, THROWN, 0);
        runs(desk, 1, 1, OK, 0);
        due("an exception at the end", desk.stretches(0), 1);
        stretchIs(desk, 0, 0, 2, 1, 0, 0);
        // Nothing is left over when the 200th ends a stretch.
        CoverageDesk whole = deskWith(row(CHOICE, 2, 2), row(ADD, 3, 1), row(ADD, 2, 0), row(ADD, 3, 1), row(GO, 0, 0));
        runs(whole, 0, 0, LONG, 0);
        due("200 are 40 times 5", whole.stretches(0), 1);
        stretchIs(whole, 0, 0, 40, 5, 0, 4);
        // LONG behind a CHOICE's way forwards: that way is between no instructions, so it tells nothing apart.
        CoverageDesk cut = deskWith(row(ADD, 2, 0), row(CHOICE, 1, 2), row(GO, 0, 0), row(GO, 0, 0));
        runs(cut, 0, 2, LONG, 0);
        due("the row up to the CHOICE", cut.stretches(0), 2);
        stretchIs(cut, 0, 0, 66, 3, 0, 3);
        stretchIs(cut, 0, 1, 1, 2, 0, 1);
        runs(cut, 0, 1, LONG, 0);
        due("another row, cut behind the same", cut.stretches(0), 3);
        stretchIs(cut, 0, 1, 2, 2, 0, 1);
        stretchIs(cut, 0, 2, 66, 3, 0, 2);
    }

    private static void theFirstForty() {
        CoverageDesk desk = new CoverageDesk();
        // Each ADD and BELOW with both ways to the next: where x crosses 0 tells the stretch.
        for (int i = 0; i < 22; i += 2) {
            draft(desk, row(ADD, 0, -1), row(BELOW, 0, i + 2));
        }
        draft(desk, row(ZERO, 1, 23), row(CHOICE, 1, 24));
        due("define(0)", desk.define(0), 24);
        for (int x = 0; x < 12; x++) {
            for (int y = 0; y < 2; y++) {
                runs(desk, x, y, OK, 0);
            }
        }
        due("24 different ones", desk.stretches(0), 24);
        stretchIs(desk, 0, 0, 1, 24, 0, 23);
        desk = new CoverageDesk();
        draftMaze(desk);
        due("define(0)", desk.define(0), 24);
        for (int y = 0; y < 4; y++) {
            for (int x = 0; x < 11; x++) {
                runs(desk, x, y, OK, 0);
                due("how many there are", desk.stretches(0), Math.min(40, 11 * y + x + 1));
            }
        }
        due("a 41st", desk.stretch(0, 40, 0), BAD);
        stretchIs(desk, 0, 39, 1, 22, 0, 23);
        runs(desk, 6, 3, OK, 0);
        runs(desk, 7, 3, OK, 0);
        due("the 40th goes on to be counted", desk.stretch(0, 39, 0), 2);
        due("the others stay as they are", desk.stretch(0, 38, 0), 1);
        due("reset", desk.reset(0), OK);
        runs(desk, 10, 3, OK, 0);
        due("told apart again", desk.stretches(0), 1);
        stretchIs(desk, 0, 0, 1, 22, 0, 23);
    }

    /** When a run is LONG the last invocation's stretch ends first; a row that has not begun is none. */
    private static void orderOfEnds() {
        CoverageDesk desk = new CoverageDesk();
        draft(desk, row(ZERO, 1, 4), row(ADD, 1, -1), row(CALL, 0, 0), row(GIVE, 0, 0), row(ADD, 3, 1), row(GO, 0, 4));
        due("define(0)", desk.define(0), 6);
        due("run(0, 0, 1)", desk.run(0, 0, 1), LONG);
        due("stretches", desk.stretches(0), 3);
        stretchIs(desk, 0, 0, 1, 3, 0, 5);
        stretchIs(desk, 0, 1, 97, 2, 4, 5);
        stretchIs(desk, 0, 2, 1, 3, 0, 2);
        due("reset", desk.reset(0), OK);
        due("run(0, 0, 5), six being at work", desk.run(0, 0, 5), LONG);
        due("stretches", desk.stretches(0), 3);
        stretchIs(desk, 0, 1, 91, 2, 4, 5);
        stretchIs(desk, 0, 2, 5, 3, 0, 2);
        // With one more CALL around it the last row is cut in its middle.
        draft(desk, row(CALL, 0, 0), row(GIVE, 0, 0));
        desk.define(1);
        due("reset", desk.reset(0), OK);
        due("run(1, 0, 1)", desk.run(1, 0, 1), LONG);
        due("stretches", desk.stretches(0), 4);
        stretchIs(desk, 0, 2, 1, 1, 4, 4);
        stretchIs(desk, 0, 3, 1, 3, 0, 2);
        stretchIs(desk, 1, 0, 1, 1, 0, 0);
        // The 200th is a CALL: what it makes has begun nothing.
        draft(desk, row(GIVE, 0, 0));
        desk.define(2);
        draft(desk, row(ZERO, 0, 3), row(ADD, 0, -1), row(GO, 0, 0), row(CALL, 0, 2), row(GIVE, 0, 0));
        desk.define(3);
        due("run(3, 66, 0)", desk.run(3, 66, 0), LONG);
        due("nothing was begun there", desk.begun(2, 0), 0);
        due("no stretch there", desk.stretches(2), 0);
        due("stretches", desk.stretches(3), 2);
        stretchIs(desk, 3, 1, 1, 2, 0, 3);
    }

    private static void stretch() {
        CoverageDesk desk = new CoverageDesk();
        draft(desk, row(ADD, 2, 1), row(CALL, 3, 1), row(PART, 0, 3), row(GIVE, 0, 0), row(ADD, 0, 1), row(GO, 0, 3));
        desk.guard(1, 2, 4);
        desk.define(0);
        draft(desk, row(ZERO, 1, 2), row(GIVE, 1, 0), row(THROW, 0, 0));
        desk.define(1);
        runs(desk, 6, 3, OK, 2);
        due("a CALL does not end it", desk.stretches(0), 1);
        stretchIs(desk, 0, 0, 1, 4, 0, 3);
        stretchIs(desk, 1, 0, 1, 2, 0, 1);
        // An exception ends it, and one begins at the handler's at, ended by the way back to 3.
        runs(desk, 6, 0, OK, 7);
        due("stretches", desk.stretches(0), 4);
        stretchIs(desk, 0, 1, 1, 2, 0, 1);
        stretchIs(desk, 0, 2, 1, 2, 4, 5);
        stretchIs(desk, 0, 3, 1, 1, 3, 3);
        stretchIs(desk, 1, 1, 1, 2, 0, 2);
        runs(desk, 6, 3, OK, 2);
        due("gone again", desk.stretch(0, 0, 0), 2);
        for (int what : row(-1, 4, MIN, MAX)) {
            due("stretch(0, 0, " + what + ")", desk.stretch(0, 0, what), BAD);
        }
        for (int k : row(-1, 4, 40, MIN, MAX)) {
            due("stretch(0, " + k + ", 0)", desk.stretch(0, k, 0), BAD);
        }
        for (int m : row(-1, 2, 4, MIN, MAX)) {
            due("stretch(" + m + ", 0, 0)", desk.stretch(m, 0, 0), BAD);
        }
        // Ways forwards to a handler's at do not end it.
        draft(desk, row(PART, 0, 1), row(GIVE, 0, 0));
        desk.guard(0, 0, 1);
        desk.define(2);
        due("run(2, 6, 3)", desk.run(2, 6, 3), OK);
        stretchIs(desk, 2, 0, 1, 2, 0, 1);
        due("run(2, 6, 0)", desk.run(2, 6, 0), OK);
        stretchIs(desk, 2, 1, 1, 1, 0, 0);
        stretchIs(desk, 2, 2, 1, 1, 1, 1);
        // A way to the same number ends it, and one begins there.
        draft(desk, row(ADD, 2, 1), row(ADD, 0, -1), row(ZERO, 0, 4), row(GO, 0, 1), row(GIVE, 0, 0));
        desk.define(3);
        due("run(3, 3, 0)", desk.run(3, 3, 0), OK);
        due("stretches", desk.stretches(3), 3);
        stretchIs(desk, 3, 0, 1, 4, 0, 3);
        stretchIs(desk, 3, 1, 1, 3, 1, 3);
        stretchIs(desk, 3, 2, 1, 3, 1, 4);
        draft(desk, row(ADD, 2, 1), row(ZERO, 0, 1), row(GIVE, 0, 0));
        desk.define(3);
        due("run(3, 0, 0)", desk.run(3, 0, 0), LONG);
        stretchIs(desk, 3, 0, 1, 2, 0, 1);
        stretchIs(desk, 3, 1, 198, 1, 1, 1);
    }

    private static void line() {
        CoverageDesk desk = new CoverageDesk();
        draft(desk, row(CHOICE, 0, 3, 0), row(ZERO, 1, 5, 1), row(BELOW, 1, 5, 2), row(ADD, 0, 0, 3), row(ADD, 0, 0, 3),
                row(PART, 0, 1, 15), row(THROW, 1, 0, 15), row(GIVE, 1, 0, 14), row(ZERO, 1, 0, 3));
        desk.define(0);
        for (int line : row(0, 1, 2, 3, 14, 15)) {
            due("line(0, " + line + "), nothing begun", desk.line(0, line), 1);
        }
        due("a line without instructions", desk.line(0, 4), 0);
        desk.run(0, 1, 0);
        due("CHOICE, way 1 taken", desk.line(0, 0), 2);
        due("one of two or more begun", desk.line(0, 3), 2);
        due("PART begun, but not the THROW", desk.line(0, 15), 2);
        desk.run(0, 2, 2);
        desk.run(0, 3, 2);
        due("CHOICE, ways 1 to 3 taken", desk.line(0, 0), 2);
        due("a THROW has no ways to be taken", desk.line(0, 15), 3);
        due("the ZERO not begun", desk.line(0, 3), 2);
        due("not begun yet", desk.line(0, 1), 1);
        desk.run(0, 4, 0);
        due("CHOICE, all ways taken", desk.line(0, 0), 3);
        due("ZERO, way 1 taken", desk.line(0, 1), 2);
        due("BELOW not begun", desk.line(0, 2), 1);
        desk.run(0, 4, 2);
        due("ZERO, both taken", desk.line(0, 1), 3);
        due("BELOW, way 0 taken", desk.line(0, 2), 2);
        desk.run(0, 4, -2);
        due("BELOW, both taken", desk.line(0, 2), 3);
        due("the GIVE", desk.line(0, 14), 1);
        due("reset", desk.reset(0), OK);
        due("after a reset", desk.line(0, 0), 1);
        // A way that was not taken counts against a line only at a ZERO, BELOW or CHOICE.
        draft(desk, row(PART, 0, 2, 7), row(CALL, 0, 1, 8));
        desk.guard(0, 0, 1);
        desk.define(2);
        desk.run(2, 0, 0);
        due("a PART whose way was not taken", desk.line(2, 7), 3);
        due("a CALL whose way was not taken", desk.line(2, 8), 3);
        for (int line : row(-1, 16, MIN, MAX)) {
            due("line(0, " + line + ")", desk.line(0, line), BAD);
        }
        for (int m : row(-1, 1, 4, MIN, MAX)) {
            due("line(" + m + ", 0)", desk.line(m, 0), BAD);
        }
    }

    private static void reset() {
        CoverageDesk desk = deskWithLoop();
        draft(desk, row(THROW, 0, 0));
        desk.define(1);
        runs(desk, 2, 5, OK, 5);
        desk.run(1, 3, 0);
        due("reset(1)", desk.reset(1), OK);
        due("begun(1, 0)", desk.begun(1, 0), 0);
        due("thrown(1, 0)", desk.thrown(1, 0), 0);
        due("stretches(1)", desk.stretches(1), 0);
        due("stretch(1, 0, 0)", desk.stretch(1, 0, 0), BAD);
        due("the other method keeps its data", desk.begun(0, 0), 3);
        due("and its stretches", desk.stretches(0), 2);
        due("reset(0)", desk.reset(0), OK);
        due("taken(0, 0, 1)", desk.taken(0, 0, 1), 0);
        runs(desk, 0, 5, OK, 5);
        due("counted anew", desk.begun(0, 0), 1);
        due("counted anew", desk.stretch(0, 0, 0), 1);
        due("counted anew", desk.stretch(0, 0, 1), 2);
        for (int m : row(-1, 2, 4, MIN, MAX)) {
            due("reset(" + m + ")", desk.reset(m), BAD);
        }
    }

    private static void keep() {
        CoverageDesk desk = deskWithLoop();
        for (int slot : row(-1, 3, MIN, MAX)) {
            due("keep(" + slot + ")", desk.keep(slot), false);
        }
        for (int slot = 0; slot < 3; slot++) {
            due("nothing kept yet", desk.merge(slot), BAD);
        }
        due("keep(0)", desk.keep(0), true);
        runs(desk, 2, 5, OK, 5);
        due("keep(1)", desk.keep(1), true);
        runs(desk, 2, 5, OK, 5);
        due("keep(2)", desk.keep(2), true);
        due("keeping leaves the data", desk.begun(0, 0), 6);
        due("and the stretches", desk.stretches(0), 2);
        for (int slot = 0; slot < 3; slot++) {
            desk.reset(0);
            due("merge(" + slot + ")", desk.merge(slot), 1);
            due("each slot keeps its own", desk.begun(0, 0), 3 * slot);
            due("no stretches are kept", desk.stretches(0), 0);
        }
        // What is kept anew takes the place of what was there.
        desk.reset(0);
        runs(desk, 0, 5, OK, 5);
        due("keep(2)", desk.keep(2), true);
        due("merge(2)", desk.merge(2), 1);
        due("kept anew", desk.begun(0, 0), 2);
        due("stretches are those of the run", desk.stretch(0, 0, 0), 1);
        // One slot does not touch another, nor the draft.
        desk = deskWithLoop();
        draft(desk, row(GIVE, 0, 0));
        runs(desk, 1, 5, OK, 5);
        for (int slot = 2; slot >= 0; slot--) {
            due("keep(" + slot + ")", desk.keep(slot), true);
            runs(desk, 1, 5, OK, 5);
        }
        for (int slot = 0; slot < 3; slot++) {
            desk.reset(0);
            due("merge(" + slot + ")", desk.merge(slot), 1);
            due("kept in " + slot, desk.begun(0, 3), 3 - slot);
        }
        due("the draft is still there", desk.define(3), 1);
        CoverageDesk bare = new CoverageDesk();
        due("keep without methods", bare.keep(0), true);
        due("merge without methods", bare.merge(0), 0);
    }

    private static void merge() {
        mergesSameMethods();
        mergesAllData();
        mergesUnderLoad();
        CoverageDesk desk = deskWithLoop();
        desk.keep(1);
        for (int slot : row(-1, 0, 2, 3, MIN, MAX)) {
            due("merge(" + slot + ")", desk.merge(slot), BAD);
        }
    }

    private static void draftSample(CoverageDesk desk, int changed, int by) {
        int[] n = {ZERO, 0, 2, 3, CALL, 1, 2, 4, 0, 1, 0, 1, 2, 1};
        n[changed] += by;
        draft(desk, row(n[0], n[1], n[2], n[3]), row(n[4], n[5], n[6], n[7]));
        due("guard", desk.guard(n[8], n[9], n[10]), true);
        due("guard", desk.guard(n[11], n[12], n[13]), true);
    }

    private static void mergesSameMethods() {
        CoverageDesk desk = new CoverageDesk();
        draftSample(desk, 0, 0);
        desk.define(0);
        desk.run(0, 0, 0);
        desk.keep(0);
        for (int changed = 0; changed < 14; changed++) {
            draftSample(desk, changed, 1);
            desk.define(0);
            due("merge, number " + changed + " being another", desk.merge(0), 0);
            due("nothing is added", desk.begun(0, 0), 0);
            draftSample(desk, changed, 0);
            desk.define(0);
            due("merge of the same", desk.merge(0), 1);
            due("what was kept", desk.begun(0, 0), 1);
        }
        // b & 3 is the same variable, but the instruction is another.
        draftSample(desk, 6, 4);
        desk.define(0);
        due("merge, b being 4 more", desk.merge(0), 0);
        draft(desk, row(ZERO, 0, 2, 3), row(CALL, 1, 2, 4));
        desk.guard(0, 1, 0);
        desk.define(0);
        due("merge, a handler less", desk.merge(0), 0);
        draftSample(desk, 0, 0);
        desk.guard(1, 1, 1);
        desk.define(0);
        due("merge, a handler more", desk.merge(0), 0);
        draftSample(desk, 0, 0);
        draft(desk, row(GIVE, 0, 0));
        desk.define(0);
        due("merge, an instruction more", desk.merge(0), 0);
        draftSample(desk, 0, 0);
        desk.define(0);
        due("merge of the same after longer ones", desk.merge(0), 1);
        desk.define(0);
        due("merge, the method being gone", desk.merge(0), 0);
        draftSample(desk, 0, 0);
        desk.define(1);
        due("merge, the same but elsewhere", desk.merge(0), 0);
        due("nothing is added there", desk.begun(1, 0), 0);
        desk.define(1);
        due("methods that are not there count neither", desk.merge(0), 0);
    }

    private static void mergesAllData() {
        CoverageDesk desk = new CoverageDesk();
        for (int m = 0; m < 4; m++) {
            draft(desk, row(CHOICE, 0, 1), row(PART, 0, 2), row(ADD, 0, 0), row(GIVE, 0, 0));
            desk.define(m);
            for (int x = 0; x <= m; x++) {
                desk.run(m, x, 0);
            }
        }
        desk.keep(2);
        draft(desk, row(GIVE, 0, 0));
        desk.define(1);
        due("merge(2)", desk.merge(2), 3);
        due("begun(1, 0)", desk.begun(1, 0), 0);
        for (int m = 0; m < 4; m += m == 0 ? 2 : 1) {
            due("begun(" + m + ", 0)", desk.begun(m, 0), 2 * (m + 1));
            for (int k = 0; k < 4; k++) {
                due("taken(" + m + ", 0, " + k + ")", desk.taken(m, 0, k), k <= m ? 2 : 0);
            }
        }
        due("thrown(3, 1)", desk.thrown(3, 1), 4);
        due("stretches stay", desk.stretches(3), 4);
        due("as they are", desk.stretch(3, 0, 0), 1);
        due("line, from what was kept", desk.line(3, 0), 3);
    }

    private static void mergesUnderLoad() {
        CoverageDesk desk = fullDesk();
        int begun = desk.begun(0, 0);
        due("above 1000000000", desk.merge(0), BAD);
        due("nothing changes", desk.begun(0, 0), begun);
        due("1000000000 and nothing more", desk.merge(2), 1);
        due("a run may still begin", desk.run(0, 0, 0), OK);
        due("now it is above", desk.merge(2), BAD);
        due("keep", desk.keep(1), true);
        due("merge of what is above", desk.merge(1), BAD);
        due("now a run may not", desk.run(0, 0, 0), BAD);
        // 500000000 kept, and then one more begun.
        desk = deskWithLoop();
        runs(desk, 41, 5, OK, 5);
        multiplyLoad(desk, 1, 4);
        multiplyLoadByAMillion(desk, 1);
        desk.keep(0);
        draft(desk, row(GIVE, 0, 0));
        desk.define(1);
        due("the 500000001st", desk.run(1, 0, 0), OK);
        due("1000000001", desk.merge(0), BAD);
        due("nothing changes", desk.begun(0, 0), begun / 2);
        // What is taken from the data is not taken from the LOAD.
        due("reset(0)", desk.reset(0), OK);
        due("reset(1)", desk.reset(1), OK);
        due("define(1)", desk.define(1), 0);
        due("still 1000000001", desk.merge(0), BAD);
    }

    private static void orderAndLimits() {
        CoverageDesk desk = deskWith(row(CALL, 0, 0), row(GIVE, 0, 0));
        runs(desk, 0, 0, THROWN, -2);
        due("six at work", desk.begun(0, 0), 6);
        // Counts y down; at 0 it calls method 1.
        desk = new CoverageDesk();
        int[][] rows = {row(ZERO, 1, 4), row(ADD, 1, -1), row(CALL, 0, 0), row(GIVE, 0, 0), row(CALL, 0, 1), row(GIVE, 0, 0)};
        draft(desk, rows);
        desk.define(0);
        runs(desk, 7, 4, THROWN, -1);
        runs(desk, 7, 5, THROWN, -1);
        runs(desk, 7, 6, THROWN, -2);
        draft(desk, row(GIVE, 0, 0));
        desk.define(1);
        runs(desk, 7, 4, OK, 7);
        runs(desk, 7, 5, THROWN, -2);
        due("the sixth was made", desk.begun(1, 0), 1);
        // Those that have ended are at work no more.
        desk = deskWith(row(CALL, 2, 1), row(CALL, 2, 1), row(CALL, 2, 1), row(CALL, 2, 1), row(CALL, 2, 1), row(CALL, 2, 1),
                row(CALL, 2, 1), row(GIVE, 2, 0));
        draft(desk, row(GIVE, 1, 0));
        desk.define(1);
        runs(desk, 7, 5, OK, 5);
        due("seven times", desk.begun(1, 0), 7);
    }
}
