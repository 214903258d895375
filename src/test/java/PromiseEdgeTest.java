/** Each sentence of promises 1 to 10 that names a boundary case, and each refused call. */
public final class PromiseEdgeTest extends Checks {
    public static void main(String[] args) {
        about("1: no methods, an empty draft, no data, nothing kept", PromiseEdgeTest::aNewObject);
        about("2: false if op is outside 0..11, a outside 0..3, line outside 0..15", PromiseEdgeTest::addOutside);
        about("2: false if there are 24", PromiseEdgeTest::addToTheFull);
        about("3: false if a number is outside 0..23, from is above to", PromiseEdgeTest::guardOutside);
        about("3: false if there are 3", PromiseEdgeTest::guardToTheFull);
        about("4: method m is what is drafted, without data; the draft is empty then", PromiseEdgeTest::defines);
        about("4: how many instructions", PromiseEdgeTest::definesHowMany);
        about("4: BAD, and the draft stays, if m is outside", PromiseEdgeTest::defineOutside);
        about("5: BAD if it is not there", PromiseEdgeTest::runOfNone);
        about("5: BAD if the LOAD is above 1000000000", PromiseEdgeTest::runAboveLoad);
        about("5: the LOAD is how many instructions all runs have begun together", PromiseEdgeTest::loadOfRuns);
        about("6: what the latest run that was not BAD gave", PromiseEdgeTest::resultOfLatest);
        about("7: begun is BAD if it is not there", PromiseEdgeTest::begunOfNone);
        about("8: taken is BAD also if there is no such way", PromiseEdgeTest::takenOfNone);
        about("9: thrown is BAD if it is not there", PromiseEdgeTest::thrownOfNone);
        about("9: those that came out of its CALL, too", PromiseEdgeTest::thrownOutOfCall);
        about("10: how many counters are needed", PromiseEdgeTest::countersAtTheEdges);
        tellAndExit("all edges of promises 1 to 10 hold");
    }

    private static void aNewObject() {
        CoverageDesk desk = new CoverageDesk();
        due("result()", desk.result(), 0);
        for (int m = -1; m <= 4; m++) {
            refusesMethod(desk, m);
        }
        for (int slot = -1; slot <= 3; slot++) {
            due("merge(" + slot + ")", desk.merge(slot), BAD);
        }
        due("result()", desk.result(), 0);
        // The draft has no instruction and no handler: there is room for all of them.
        for (int h = 0; h < 3; h++) {
            due("guard", new CoverageDesk().guard(0, 0, 0), true);
            guard(desk, 0, 0, 0);
        }
        due("define(0)", desk.define(0), 0);
        // A handler left in the draft would catch this one.
        runs(deskWith(row(THROW, 0, 0), row(GIVE, 1, 0)), 5, 6, THROWN, 5);
        // The methods not yet defined are not there, for a CALL neither.
        for (int b = 1; b < 4; b++) {
            runs(deskWith(row(CALL, 0, b)), 5, 6, THROWN, -1);
        }
        // Defined, and not yet run: no data.
        desk = deskWithLoop();
        begunIs(desk, 0, 0, 0, 0, 0);
        takenIs(desk, 0, 0, 0, 0);
        due("thrown(0, 0)", desk.thrown(0, 0), 0);
        stretchesAre(desk, 0);
        // Objects share nothing.
        runs(desk, 1, 6, OK, 6);
        due("keep(0)", desk.keep(0), true);
        due("add", desk.add(0, 0, 0, 0), true);
        CoverageDesk other = new CoverageDesk();
        due("merge(0) of another object", other.merge(0), BAD);
        due("result() of another object", other.result(), 0);
        due("define(0) of another object", other.define(0), 0);
        due("run(0, 1, 6) of another object", other.run(0, 1, 6), BAD);
    }

    private static void addOutside() {
        CoverageDesk desk = new CoverageDesk();
        draft(desk, row(SET, 0, 41));
        for (int bad : row(MIN, -2, -1, 12, 13, MAX)) {
            due("add(" + bad + ", 0, 0, 0)", desk.add(bad, 0, 0, 0), false);
        }
        for (int bad : row(MIN, -2, -1, 4, 5, MAX)) {
            due("add(0, " + bad + ", 0, 0)", desk.add(0, bad, 0, 0), false);
        }
        for (int bad : row(MIN, -2, -1, 16, 17, MAX)) {
            due("add(0, 0, 0, " + bad + ")", desk.add(0, 0, 0, bad), false);
        }
        due("add of all wrong", desk.add(12, 4, 0, 16), false);
        draft(desk, row(GIVE, 0, 0));
        due("define(0), none of the refused being in it", desk.define(0), 2);
        runs(desk, 5, 6, OK, 41);
        // Each op, a and line inside, with any b.
        for (int op = 0; op <= 11; op++) {
            due("add(" + op + ", 3, MAX, 15)", desk.add(op, 3, MAX, 15), true);
        }
        for (int a = 0; a <= 3; a++) {
            due("add(0, " + a + ", MIN, 0)", desk.add(0, a, MIN, 0), true);
        }
        due("define(0)", desk.define(0), 16);
        for (int line = 0; line <= 15; line++) {
            due("add(0, 0, -1, " + line + ")", desk.add(0, 0, -1, line), true);
        }
        due("define(0)", desk.define(0), 16);
    }

    private static void addToTheFull() {
        CoverageDesk desk = new CoverageDesk();
        for (int i = 0; i < 23; i++) {
            due("add", desk.add(ADD, 1, 1 << i, i % 16), true);
        }
        due("add of the 24th", desk.add(GIVE, 1, 0, 15), true);
        for (int n = 0; n < 3; n++) {
            due("add of a 25th", desk.add(GIVE, 0, 0, 0), false);
        }
        guard(desk, 0, 0, 0);
        due("define(0)", desk.define(0), 24);
        runs(desk, 5, 0, OK, (1 << 23) - 1);
        due("line(0, 15), the 24th and the 16th", desk.line(0, 15), 3);
        // Room again, now that the draft is empty.
        for (int i = 0; i < 24; i++) {
            due("add", desk.add(SET, 0, 0, 0), true);
        }
        due("add of a 25th", desk.add(SET, 0, 0, 0), false);
        due("define(4)", desk.define(4), BAD);
        due("add of a 25th, the draft having stayed", desk.add(SET, 0, 0, 0), false);
        due("define(1)", desk.define(1), 24);
    }

    private static void guardOutside() {
        CoverageDesk desk = new CoverageDesk();
        for (int bad : row(MIN, -2, -1, 24, 25, MAX)) {
            due("guard(" + bad + ", 23, 0)", desk.guard(bad, 23, 0), false);
            due("guard(0, " + bad + ", 0)", desk.guard(0, bad, 0), false);
            due("guard(" + bad + ", " + bad + ", 0)", desk.guard(bad, bad, 0), false);
            due("guard(0, 0, " + bad + ")", desk.guard(0, 0, bad), false);
        }
        for (int from = 1; from < 24; from++) {
            due("guard(" + from + ", " + (from - 1) + ", 0)", desk.guard(from, from - 1, 0), false);
            due("guard(" + from + ", 0, 0)", desk.guard(from, 0, 0), false);
        }
        // None of the refused is in it.
        define(desk, 0, row(THROW, 0, 0), row(GIVE, 1, 0));
        runs(desk, 5, 6, THROWN, 5);
        for (int n = 0; n < 24; n++) {
            CoverageDesk other = new CoverageDesk();
            guard(other, n, n, n);
            guard(other, 0, n, n);
            guard(other, n, 23, n);
        }
    }

    private static void guardToTheFull() {
        CoverageDesk desk = new CoverageDesk();
        guard(desk, 1, 1, 1);
        guard(desk, 2, 2, 2);
        guard(desk, 3, 3, 3);
        for (int n = 0; n < 3; n++) {
            due("guard of a fourth", desk.guard(0, 0, 1), false);
        }
        define(desk, 0, row(THROW, 0, 0), row(GIVE, 1, 0));
        runs(desk, 5, 6, THROWN, 5);
        // Room again, now that the draft is empty: three, and the third is used.
        guard(desk, 1, 1, 1);
        guard(desk, 2, 2, 2);
        guard(desk, 0, 0, 1);
        due("guard of a fourth", desk.guard(0, 0, 0), false);
        due("define(-1)", desk.define(-1), BAD);
        due("guard of a fourth, the draft having stayed", desk.guard(0, 0, 0), false);
        define(desk, 0, row(THROW, 0, 0), row(GIVE, 1, 0));
        runs(desk, 5, 6, OK, 6);
    }

    private static void defines() {
        CoverageDesk desk = new CoverageDesk();
        guard(desk, 1, 1, 2);
        define(desk, 0, row(ZERO, 0, 2), row(THROW, 1, 0), row(GIVE, 0, 0));
        guard(desk, 1, 1, 2);
        define(desk, 3, row(ZERO, 0, 2), row(THROW, 1, 0), row(GIVE, 0, 0));
        for (int m = 0; m < 4; m += 3) {
            runsMethod(desk, m, 0, 8, OK, 0);
            runsMethod(desk, m, 5, 8, OK, 8);
        }
        // The same again, but without the handler: no data, and no handler from before.
        define(desk, 3, row(ZERO, 0, 2), row(THROW, 1, 0), row(GIVE, 0, 0));
        begunIs(desk, 3, 0, 0, 0);
        takenIs(desk, 3, 0, 0, 0);
        takenIs(desk, 3, 2, 0);
        due("thrown(3, 1)", desk.thrown(3, 1), 0);
        stretchesAre(desk, 3);
        due("line(3, 0)", desk.line(3, 0), 1);
        due("result()", desk.result(), 8);
        runsMethod(desk, 3, 5, 9, THROWN, 9);
        // The others keep what they have.
        begunIs(desk, 0, 2, 1, 2);
        due("thrown(0, 1)", desk.thrown(0, 1), 1);
        stretchesAre(desk, 0, row(1, 2, 0, 2), row(1, 2, 0, 1), row(1, 1, 2, 2));
        // What was drafted is in no later method.
        due("define(1), the draft being empty", desk.define(1), 0);
        due("run(1, 0, 0)", desk.run(1, 0, 0), BAD);
        due("define(0), the draft being empty", desk.define(0), 0);
        due("run(0, 0, 0)", desk.run(0, 0, 0), BAD);
        // Drafting does nothing to a method until it is defined.
        leavesAll("a draft", desk, () -> {
            draft(desk, row(GIVE, 2, 0));
            guard(desk, 0, 23, 0);
        });
        runsMethod(desk, 3, 5, 9, THROWN, 9);
    }

    private static void definesHowMany() {
        CoverageDesk desk = new CoverageDesk();
        for (int size : row(0, 1, 2, 12, 23, 24)) {
            for (int i = 0; i < size; i++) {
                draft(desk, row(GO, 0, size - 1));
            }
            due("define(2) of " + size, desk.define(2), size);
            due("begun of the last", desk.begun(2, size - 1), size == 0 ? BAD : 0);
            due("begun behind the last", desk.begun(2, size), BAD);
        }
    }

    private static void defineOutside() {
        CoverageDesk desk = deskWithLoop();
        runs(desk, 2, 6, OK, 6);
        draft(desk, row(THROW, 1, 0));
        guard(desk, 0, 0, 1);
        leavesAll("define outside", desk, () -> {
            for (int m : FAR_METHODS) {
                due("define(" + m + ")", desk.define(m), BAD);
            }
        });
        draft(desk, row(GIVE, 0, 0));
        due("define(3), the draft having stayed", desk.define(3), 2);
        runsMethod(desk, 3, 5, 7, OK, 7);
        due("define(4), the draft being empty", desk.define(4), BAD);
        due("define(-1), the draft being empty", desk.define(-1), BAD);
        due("define(3)", desk.define(3), 0);
    }

    private static void runOfNone() {
        CoverageDesk desk = deskWithLoop();
        define(desk, 1, row(THROW, 0, 0));
        runs(desk, 2, 6, OK, 6);
        runsMethod(desk, 1, 2, 6, THROWN, 2);
        draft(desk, row(GIVE, 0, 0));
        leavesAll("a refused run", desk, () -> {
            for (int m : FAR_METHODS) {
                due("run(" + m + ", 0, 0)", desk.run(m, 0, 0), BAD);
            }
            due("run(2, 0, 0)", desk.run(2, 0, 0), BAD);
            due("run(3, 0, 0)", desk.run(3, 0, 0), BAD);
        });
        due("define(3), the draft having stayed", desk.define(3), 1);
        runsMethod(desk, 3, MIN, 0, OK, MIN);
    }

    private static void runAboveLoad() {
        // Up to 1000000000 it runs, and may begin up to 200 more.
        for (int begins : row(1, 200)) {
            CoverageDesk desk = deskWithMeasure();
            draftLoop(desk);
            due("define(0)", desk.define(0), 4);
            // 1 before, four times 200, 197, and two times 1: 1000.
            for (int n = 0; n < 4; n++) {
                runs(desk, 66, 6, OK, 6);
            }
            runs(desk, 65, 6, OK, 6);
            runsMethod(desk, 3, 7, 0, OK, 7);
            runsMethod(desk, 3, 7, 0, OK, 7);
            multiplyLoadByAMillion(desk, 2);
            due("begun(3, 0)", desk.begun(3, 0), 3000000);
            runsMethod(desk, begins == 1 ? 3 : 0, 66, 9, OK, begins == 1 ? 66 : 9);
            int result = desk.result();
            leavesAll("a run above 1000000000", desk, () -> {
                due("run(0, 0, 0)", desk.run(0, 0, 0), BAD);
                due("run(3, 0, 0)", desk.run(3, 0, 0), BAD);
                due("run(1, 0, 0)", desk.run(1, 0, 0), BAD);
                due("run(4, 0, 0)", desk.run(4, 0, 0), BAD);
            });
            due("result()", desk.result(), result);
            // Neither a reset nor a new method takes from the LOAD.
            due("reset(3)", desk.reset(3), OK);
            define(desk, 0, row(GIVE, 0, 0));
            due("run(0, 0, 0)", desk.run(0, 0, 0), BAD);
            due("run(3, 0, 0)", desk.run(3, 0, 0), BAD);
            due("result()", desk.result(), result);
        }
    }

    private static void loadOfRuns() {
        // At first it is 0.
        CoverageDesk desk = new CoverageDesk();
        due("keep(1)", desk.keep(1), true);
        for (int n = 0; n < 100; n++) {
            due("merge(1)", desk.merge(1), 0);
        }
        // 1, and 200 each of runs that are OK, THROWN and LONG, in one or more invocations; refused ones begin none.
        desk = deskWithMeasure();
        draftLoop(desk);
        due("define(0)", desk.define(0), 4);
        runs(desk, 66, 6, OK, 6);
        runs(desk, 67, 6, LONG, 0);
        runs(desk, MIN, 6, LONG, 0);
        define(desk, 1, row(CALL, 0, 0), row(THROW, 0, 0));
        runsMethod(desk, 1, 65, 6, THROWN, 6);
        due("run(2, 0, 0)", desk.run(2, 0, 0), BAD);
        due("run(4, 0, 0)", desk.run(4, 0, 0), BAD);
        // That is 1 + 3 * 200 + 199 so far.
        guard(desk, 0, 0, 0);
        define(desk, 2, row(THROW, 0, 0));
        due("run(2, 0, 0)", desk.run(2, 0, 0), LONG);
        due("reset(2)", desk.reset(2), OK);
        define(desk, 0, row(GIVE, 0, 0));
        due("define(1)", desk.define(1), 0);
        loadIsThousand(desk, 3);
    }

    private static void resultOfLatest() {
        CoverageDesk desk = new CoverageDesk();
        due("result() before any run", desk.result(), 0);
        due("run(0, 4, 5)", desk.run(0, 4, 5), BAD);
        due("result() after a BAD run alone", desk.result(), 0);
        define(desk, 0, row(CHOICE, 1, 2), row(GIVE, 0, 0), row(THROW, 0, 0), row(GO, 0, 3), row(GO, 0, 24));
        for (int value : row(MIN, -1, 0, 1, MAX)) {
            runs(desk, value, 0, OK, value);
            runs(desk, value, 1, THROWN, value);
            runs(desk, 8, 0, OK, 8);
            runs(desk, value, 2, LONG, 0);
            runs(desk, 8, 0, OK, 8);
            runs(desk, value, 3, OK, 0);
        }
        // It stays whatever else is called.
        runs(desk, 8, 0, OK, 8);
        due("run(1, 4, 5)", desk.run(1, 4, 5), BAD);
        due("result()", desk.result(), 8);
        due("run(-1, 4, 5)", desk.run(-1, 4, 5), BAD);
        due("result()", desk.result(), 8);
        due("keep(0)", desk.keep(0), true);
        due("reset(0)", desk.reset(0), OK);
        due("merge(0)", desk.merge(0), 1);
        due("merge(1)", desk.merge(1), BAD);
        define(desk, 1, row(GIVE, 0, 0));
        due("define(0)", desk.define(0), 0);
        due("result()", desk.result(), 8);
    }

    private static void begunOfNone() {
        CoverageDesk desk = deskWithLoop();
        define(desk, 3, row(GIVE, 0, 0));
        runs(desk, 2, 6, OK, 6);
        leavesAll("begun", desk, () -> {
            for (int i : row(MIN, -1, 4, 5, 23, 24, MAX)) {
                due("begun(0, " + i + ")", desk.begun(0, i), BAD);
            }
            due("begun(3, 0)", desk.begun(3, 0), 0);
            due("begun(3, 1)", desk.begun(3, 1), BAD);
            for (int m : row(MIN, -1, 1, 2, 4, MAX)) {
                for (int i : row(-1, 0, 3, 23)) {
                    due("begun(" + m + ", " + i + ")", desk.begun(m, i), BAD);
                }
            }
        });
        begunIs(desk, 0, 3, 2, 2, 1);
        // The most that a run can begin of one instruction.
        define(desk, 3, row(GO, 0, 0));
        runsMethod(desk, 3, 0, 0, LONG, 0);
        begunIs(desk, 3, 200);
    }

    private static void takenOfNone() {
        CoverageDesk desk = new CoverageDesk();
        int[] ways = {1, 1, 1, 1, 1, 2, 2, 4, 1, 1, 0, 1};
        for (int op = 0; op < 12; op++) {
            draft(desk, row(op, 0, 0));
        }
        due("define(1)", desk.define(1), 12);
        for (int op = 0; op < 12; op++) {
            for (int k : row(MIN, -1, 0, 1, 2, 3, 4, 5, MAX)) {
                due("taken(1, " + op + ", " + k + ")", desk.taken(1, op, k), k >= 0 && k < ways[op] ? 0 : BAD);
            }
        }
        for (int i : row(MIN, -1, 12, 23, 24, MAX)) {
            due("taken(1, " + i + ", 0)", desk.taken(1, i, 0), BAD);
        }
        for (int m : row(MIN, -1, 0, 2, 3, 4, MAX)) {
            due("taken(" + m + ", 0, 0)", desk.taken(m, 0, 0), BAD);
        }
        // A way that leads outside, or to the same number, is a way, too.
        desk = deskWith(row(CHOICE, 0, 0));
        for (int x : row(2, 2, 3, 0, 0, 0)) {
            runs(desk, x, 0, OK, 0);
        }
        runs(desk, 1, 0, LONG, 0);
        takenIs(desk, 0, 0, 3, 200, 2, 1);
    }

    private static void thrownOfNone() {
        CoverageDesk desk = deskWith(row(ZERO, 0, 2), row(THROW, 0, 0), row(GIVE, 0, 0));
        runs(desk, 5, 0, THROWN, 5);
        runs(desk, 0, 0, OK, 0);
        leavesAll("thrown", desk, () -> {
            for (int i : row(MIN, -1, 3, 4, 23, 24, MAX)) {
                due("thrown(0, " + i + ")", desk.thrown(0, i), BAD);
            }
            for (int m : row(MIN, -1, 1, 2, 3, 4, MAX)) {
                due("thrown(" + m + ", 0)", desk.thrown(m, 0), BAD);
                due("thrown(" + m + ", 1)", desk.thrown(m, 1), BAD);
            }
        });
        due("thrown(0, 0)", desk.thrown(0, 0), 0);
        due("thrown(0, 1)", desk.thrown(0, 1), 1);
        due("thrown(0, 2)", desk.thrown(0, 2), 0);
    }

    private static void thrownOutOfCall() {
        // One exception, at one place in each of six invocations.
        CoverageDesk desk = deskWith(row(ADD, 0, -1), row(ZERO, 0, 3), row(CALL, 0, 0), row(THROW, 1, 0));
        runs(desk, 6, 9, THROWN, 9);
        due("thrown(0, 3)", desk.thrown(0, 3), 1);
        due("thrown(0, 2)", desk.thrown(0, 2), 5);
        takenIs(desk, 0, 2, 0);
        // Handled inside: nothing comes out of the CALL.
        guard(desk, 0, 0, 1);
        define(desk, 1, row(THROW, 0, 0), row(GIVE, 1, 0));
        define(desk, 0, row(CALL, 0, 1), row(GIVE, 0, 0));
        runs(desk, 6, 9, OK, 9);
        due("thrown(0, 0)", desk.thrown(0, 0), 0);
        due("thrown(1, 0)", desk.thrown(1, 0), 1);
        takenIs(desk, 0, 0, 1);
    }

    private static void countersAtTheEdges() {
        // Lines less points plus parts, one instruction of each kind alone.
        int[] alone = {1, 1, 1, 1, 1, 2, 2, 4, 1, 1, 0, 1};
        for (int op = 0; op < 12; op++) {
            due("counters of op " + op, deskWith(row(op, 0, 24)).counters(0), alone[op]);
            due("counters of op " + op + " to itself", deskWith(row(op, 0, 0)).counters(0), alone[op]);
        }
        // All 24: none, the most, and each in a part of its own.
        CoverageDesk desk = new CoverageDesk();
        for (int m = 0; m < 4; m++) {
            for (int i = 0; i < 24; i++) {
                draft(desk, m == 0 ? row(THROW, 0, 0) : m == 1 ? row(CHOICE, 0, 24) : m == 2 ? row(GO, 0, i) : row(ADD, 0, 0));
            }
            due("define(" + m + ")", desk.define(m), 24);
        }
        due("24 times THROW", desk.counters(0), 1 - 25 + 24);
        due("24 times CHOICE", desk.counters(1), 97 - 25 + 1);
        due("24 times GO to itself", desk.counters(2), 25 - 25 + 24);
        due("24 times ADD", desk.counters(3), 25 - 25 + 1);
        // Ways to places outside on both sides lead to the same point; the last one inside is a point of its own.
        due("to -1 and behind", deskWith(row(ZERO, 0, -1), row(GO, 0, 2)).counters(0), 4 - 3 + 1);
        due("to MIN and MAX", deskWith(row(ZERO, 0, MIN), row(GO, 0, MAX)).counters(0), 4 - 3 + 1);
        due("to the last one", deskWith(row(GO, 0, 1), row(THROW, 0, 0)).counters(0), 2 - 3 + 1);
        due("behind the last one", deskWith(row(GO, 0, 2), row(THROW, 0, 0)).counters(0), 2 - 3 + 2);
        due("b + 2 wraps", deskWith(row(CHOICE, 0, MAX), row(THROW, 0, 0)).counters(0), 5 - 3 + 1);
        due("b + 1 is 0", deskWith(row(CHOICE, 0, -1), row(THROW, 0, 0)).counters(0), 5 - 3 + 1);
        due("b + 2 is 0", deskWith(row(CHOICE, 0, -2), row(THROW, 0, 0)).counters(0), 5 - 3 + 1);
        due("two rings hang together", deskWith(row(GIVE, 0, 0), row(GO, 0, 2), row(GO, 0, 1), row(GO, 0, 4),
                row(ZERO, 0, 3)).counters(0), 7 - 6 + 2);
        // Neither handlers nor calls nor data are lines.
        CoverageDesk handled = new CoverageDesk();
        guard(handled, 0, 1, 1);
        define(handled, 0, row(CALL, 0, 1), row(GIVE, 2, 0), row(THROW, 0, 0));
        due("counters(0)", handled.counters(0), 3 - 4 + 2);
        runs(handled, 5, 6, OK, 0);
        due("counters(0) after a run", handled.counters(0), 3 - 4 + 2);
        leavesAll("counters", handled, () -> {
            due("counters(0)", handled.counters(0), 3 - 4 + 2);
            for (int m : row(MIN, -1, 1, 2, 3, 4, MAX)) {
                due("counters(" + m + ")", handled.counters(m), BAD);
            }
        });
    }
}
