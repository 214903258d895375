/** Each sentence of the section "Terms" that names a boundary case, at its edges and just beyond them. */
public final class TermsEdgeTest extends Checks {
    public static void main(String[] args) {
        about("METHODS 0..3", TermsEdgeTest::methodNumbers);
        about("up to 24 INSTRUCTIONS, numbered from 0", TermsEdgeTest::instructionNumbers);
        about("line 0..15", TermsEdgeTest::lineNumbers);
        about("up to 3 HANDLERS", TermsEdgeTest::handlerNumbers);
        about("Without instructions a method is not there", TermsEdgeTest::withoutInstructions);
        about("four VARIABLES, w is variable a", TermsEdgeTest::fourVariables);
        about("an INVOCATION begins with instruction 0", TermsEdgeTest::beginsWithTheFirst);
        about("v is variable b & 3", TermsEdgeTest::otherVariable);
        about("SET, ADD, MOVE, SUB: arithmetic wraps", TermsEdgeTest::arithmeticWraps);
        about("each has way 0, to the next instruction", TermsEdgeTest::wayToTheNext);
        about("GO: way 0 is to b", TermsEdgeTest::go);
        about("ZERO: way 1 if w is 0", TermsEdgeTest::zero);
        about("BELOW: way 1 if w is below 0", TermsEdgeTest::below);
        about("CHOICE: taken if w is 1, 2, 3; else way 0", TermsEdgeTest::choiceOfWays);
        about("CHOICE: ways are to b, b + 1, b + 2", TermsEdgeTest::choiceOfPlaces);
        about("CALL: its variables, and what w becomes", TermsEdgeTest::callVariables);
        about("CALL: EXCEPTION -1 if the method is not there", TermsEdgeTest::callOfNone);
        about("CALL: EXCEPTION -2 if 6 invocations are at work", TermsEdgeTest::callTooDeep);
        about("GIVE ends the invocation with w", TermsEdgeTest::give);
        about("THROW: EXCEPTION w; it has no ways", TermsEdgeTest::throwsIt);
        about("PART: w / v, towards 0", TermsEdgeTest::part);
        about("PART: EXCEPTION 0 if v is 0", TermsEdgeTest::partByZero);
        about("A way to a number where no instruction is leads outside", TermsEdgeTest::leadsOutside);
        about("the first handler with i from from up to to", TermsEdgeTest::firstHandler);
        about("variable 0 becomes x, and it goes on at its at", TermsEdgeTest::goesOnAtItsAt);
        about("where there is no instruction: ends with 0", TermsEdgeTest::handlerOutside);
        about("EXCEPTION x is at the CALL in that one which made it", TermsEdgeTest::throughCalls);
        about("at most 200 instructions are begun", TermsEdgeTest::twoHundred);
        about("LONG when a further one would be", TermsEdgeTest::aFurtherOne);
        about("LONG, and over at once", TermsEdgeTest::overAtOnce);
        about("DATA, since it was defined, or the latest reset", TermsEdgeTest::dataSince);
        tellAndExit("all edges of the terms hold");
    }

    private static void methodNumbers() {
        CoverageDesk desk = new CoverageDesk();
        for (int m = 0; m < 4; m++) {
            define(desk, m, row(SET, 0, 10 + m), row(GIVE, 0, 0));
        }
        for (int m = 0; m < 4; m++) {
            runsMethod(desk, m, 0, 0, OK, 10 + m);
            for (int other = 0; other < 4; other++) {
                due("begun(" + other + ", 0)", desk.begun(other, 0), other <= m ? 1 : 0);
            }
        }
        leavesAll("a method outside", desk, () -> {
            for (int m : FAR_METHODS) {
                refusesMethod(desk, m);
            }
        });
        draft(desk, row(SET, 0, 5));
        leavesAll("define outside", desk, () -> {
            for (int m : FAR_METHODS) {
                due("define(" + m + ")", desk.define(m), BAD);
            }
        });
        due("reset(3)", desk.reset(3), OK);
        due("reset(0)", desk.reset(0), OK);
        due("begun(0, 0)", desk.begun(0, 0), 0);
        due("begun(1, 0)", desk.begun(1, 0), 1);
        due("begun(2, 0)", desk.begun(2, 0), 1);
        due("begun(3, 0)", desk.begun(3, 0), 0);
    }

    private static void instructionNumbers() {
        CoverageDesk desk = new CoverageDesk();
        int[] ones = new int[24];
        for (int i = 0; i < 24; i++) {
            draft(desk, row(ADD, 0, 1));
            ones[i] = 1;
        }
        due("define(0) of 24", desk.define(0), 24);
        runs(desk, 5, 6, OK, 0);
        begunIs(desk, 0, ones);
        stretchesAre(desk, 0, row(1, 24, 0, 23));
        for (int i : row(MIN, -1, 24, 25, MAX)) {
            due("begun(0, " + i + ")", desk.begun(0, i), BAD);
            due("taken(0, " + i + ", 0)", desk.taken(0, i, 0), BAD);
            due("thrown(0, " + i + ")", desk.thrown(0, i), BAD);
        }
        // Each method has 24 of its own.
        for (int m = 1; m < 4; m++) {
            for (int i = 0; i < 23; i++) {
                draft(desk, row(ADD, m & 1, m));
            }
            draft(desk, row(GIVE, m & 1, 0));
            due("define(" + m + ") of 24", desk.define(m), 24);
        }
        for (int m = 1; m < 4; m++) {
            runsMethod(desk, m, 0, 0, OK, 23 * m);
            due("begun(" + m + ", 23)", desk.begun(m, 23), 1);
        }
        due("begun(0, 23)", desk.begun(0, 23), 1);
        define(desk, 0, row(GIVE, 1, 0));
        runs(desk, 5, 6, OK, 6);
        begunIs(desk, 0, 1);
    }

    private static void lineNumbers() {
        CoverageDesk desk = new CoverageDesk();
        for (int line = 0; line < 16; line++) {
            draft(desk, row(SET, 0, 0, line));
        }
        due("define(0)", desk.define(0), 16);
        for (int line = 0; line < 16; line++) {
            due("line(0, " + line + ")", desk.line(0, line), 1);
        }
        runs(desk, 0, 0, OK, 0);
        for (int line = 0; line < 16; line++) {
            due("line(0, " + line + ")", desk.line(0, line), 3);
        }
        for (int line : row(MIN, -1, 16, MAX)) {
            due("line(0, " + line + ")", desk.line(0, line), BAD);
        }
        define(desk, 1, row(SET, 0, 0, 0), row(SET, 0, 0, 15));
        for (int line = 0; line < 16; line++) {
            due("line(1, " + line + ")", desk.line(1, line), line == 0 || line == 15 ? 1 : 0);
        }
    }

    private static void handlerNumbers() {
        // Without handlers.
        runs(deskWith(row(THROW, 0, 0), row(GIVE, 0, 0)), 3, 4, THROWN, 3);
        // Each of the three alone has one of the instructions 1 to 3.
        CoverageDesk desk = new CoverageDesk();
        guard(desk, 1, 1, 4);
        guard(desk, 2, 2, 5);
        guard(desk, 3, 3, 6);
        due("guard of a fourth", desk.guard(0, 23, 7), false);
        define(desk, 0, row(CHOICE, 0, 1), row(THROW, 1, 0), row(THROW, 1, 0), row(THROW, 1, 0), row(GIVE, 0, 0),
                row(GIVE, 2, 0), row(GIVE, 3, 0));
        runs(desk, 1, 9, OK, 9);
        runs(desk, 2, 9, OK, 0);
        runs(desk, 3, 9, OK, 0);
        begunIs(desk, 0, 3, 1, 1, 1, 1, 1, 1);
        // The last numbers: a handler from 23 to 23, and one at 23.
        desk = new CoverageDesk();
        guard(desk, 0, 0, 23);
        guard(desk, 23, 23, 1);
        draft(desk, row(THROW, 1, 0), row(GIVE, 0, 0));
        for (int i = 2; i < 23; i++) {
            draft(desk, row(SET, 0, 77));
        }
        draft(desk, row(THROW, 0, 0));
        due("define(0)", desk.define(0), 24);
        runs(desk, 1, 9, OK, 9);
        stretchesAre(desk, 0, row(1, 1, 0, 0), row(1, 1, 23, 23), row(1, 1, 1, 1));
    }

    private static void withoutInstructions() {
        CoverageDesk desk = new CoverageDesk();
        for (int m = 0; m < 4; m++) {
            due("define(" + m + "), the draft being empty", desk.define(m), 0);
            refusesMethod(desk, m);
        }
        define(desk, 2, row(GIVE, 0, 0));
        runsMethod(desk, 2, 5, 0, OK, 5);
        due("define(2), the draft being empty", desk.define(2), 0);
        refusesMethod(desk, 2);
        due("result()", desk.result(), 5);
        guard(desk, 0, 23, 0);
        due("define(2) of a handler alone", desk.define(2), 0);
        refusesMethod(desk, 2);
        define(desk, 1, row(CALL, 0, 2), row(GIVE, 0, 0));
        runsMethod(desk, 1, 5, 6, THROWN, -1);
        due("keep(0)", desk.keep(0), true);
        due("merge(0), one method being there", desk.merge(0), 1);
    }

    private static void fourVariables() {
        int[] start = {11, 22, 0, 0};
        for (int a = 0; a < 4; a++) {
            runs(deskWith(row(GIVE, a, 0)), 11, 22, OK, start[a]);
            runs(deskWith(row(SET, a, 99), row(GIVE, a, 0)), 11, 22, OK, 99);
            // The three others stay as they are.
            for (int other = 0; other < 4; other++) {
                runs(deskWith(row(SET, a, 99), row(GIVE, other, 0)), 11, 22, OK, other == a ? 99 : start[other]);
            }
        }
        runs(deskWith(row(GIVE, 0, 0)), MIN, MAX, OK, MIN);
        runs(deskWith(row(GIVE, 1, 0)), MIN, MAX, OK, MAX);
    }

    private static void beginsWithTheFirst() {
        CoverageDesk desk = deskWith(row(GIVE, 0, 0), row(GIVE, 1, 0));
        define(desk, 1, row(CALL, 0, 0), row(CALL, 0, 0), row(GIVE, 0, 0));
        runsMethod(desk, 1, 5, 6, OK, 5);
        begunIs(desk, 0, 2, 0);
        runs(desk, 5, 6, OK, 5);
        begunIs(desk, 0, 3, 0);
    }

    private static void otherVariable() {
        // Variables become 40, 50, 60, 70 first.
        int[][] start = {row(SET, 0, 40), row(SET, 1, 50), row(SET, 2, 60), row(SET, 3, 70)};
        for (int b : row(MIN, MIN + 1, -5, -4, -3, -2, -1, 0, 1, 2, 3, 4, 5, 6, 7, 8, MAX - 1, MAX)) {
            int v = 40 + 10 * (b & 3);
            runs(deskWith(start[0], start[1], start[2], start[3], row(MOVE, 1, b), row(GIVE, 1, 0)), 0, 0, OK, v);
            runs(deskWith(start[0], start[1], start[2], start[3], row(SUB, 1, b), row(GIVE, 1, 0)), 0, 0, OK, 50 - v);
            runs(deskWith(row(SET, 0, 4), row(SET, 1, 5), row(SET, 2, 6), row(SET, 3, 840), row(PART, 3, b), row(GIVE, 3, 0)),
                    0, 0, OK, (b & 3) == 3 ? 1 : 840 / (4 + (b & 3)));
            callsMethodOf(b);
        }
    }

    private static void callsMethodOf(int b) {
        CoverageDesk desk = new CoverageDesk();
        for (int m = 0; m < 4; m++) {
            define(desk, m, row(ZERO, 1, 3), row(SET, 1, 0), row(CALL, 0, b), row(ADD, 0, 10 * m), row(GIVE, 0, 0));
        }
        runsMethod(desk, 2, 1, 1, OK, 1 + 10 * (b & 3) + 20);
    }

    private static void arithmeticWraps() {
        for (int b : row(MIN, -1, 0, 1, MAX)) {
            runs(deskWith(row(SET, 0, b), row(GIVE, 0, 0)), 7, 8, OK, b);
            for (int x : row(MIN, MIN + 1, -1, 0, 1, MAX - 1, MAX)) {
                runs(deskWith(row(ADD, 0, b), row(GIVE, 0, 0)), x, 8, OK, x + b);
                runs(deskWith(row(SUB, 0, 1), row(GIVE, 0, 0)), x, b, OK, x - b);
                runs(deskWith(row(MOVE, 0, 1), row(GIVE, 0, 0)), x, b, OK, b);
            }
        }
        runs(deskWith(row(ADD, 0, 1), row(GIVE, 0, 0)), MAX, 0, OK, MIN);
        runs(deskWith(row(ADD, 0, -1), row(GIVE, 0, 0)), MIN, 0, OK, MAX);
        runs(deskWith(row(SUB, 0, 1), row(GIVE, 0, 0)), MIN, 1, OK, MAX);
        runs(deskWith(row(SUB, 0, 1), row(GIVE, 0, 0)), MAX, -1, OK, MIN);
        runs(deskWith(row(SUB, 2, 0), row(GIVE, 2, 0)), MIN, 0, OK, MIN);
        // w and v may be the same.
        runs(deskWith(row(SUB, 0, 0), row(GIVE, 0, 0)), MIN, 5, OK, 0);
        runs(deskWith(row(MOVE, 0, 0), row(GIVE, 0, 0)), MIN, 5, OK, MIN);
    }

    private static void wayToTheNext() {
        for (int op : row(SET, ADD, MOVE, SUB, PART)) {
            CoverageDesk desk = deskWith(row(op, 1, 0), row(op, 1, 0), row(GIVE, 0, 0));
            runs(desk, 5, 6, OK, 5);
            for (int i = 0; i < 3; i++) {
                takenIs(desk, 0, i, 1);
            }
            stretchesAre(desk, 0, row(1, 3, 0, 2));
            // Behind the last one there is none: outside, and 0 is given.
            desk = deskWith(row(op, 1, 0), row(op, 1, 0));
            runs(desk, 5, 6, OK, 0);
            takenIs(desk, 0, 0, 1);
            takenIs(desk, 0, 1, 1);
        }
    }

    private static void go() {
        for (int b : row(MIN, -2, -1, 3, 4, 23, 24, MAX)) {
            CoverageDesk desk = deskWith(row(GO, 0, b), row(GIVE, 0, 0), row(GIVE, 1, 0));
            runs(desk, 5, 6, OK, 0);
            takenIs(desk, 0, 0, 1);
            begunIs(desk, 0, 1, 0, 0);
        }
        runs(deskWith(row(GO, 0, 1), row(GIVE, 0, 0), row(GIVE, 1, 0)), 5, 6, OK, 5);
        runs(deskWith(row(GO, 0, 2), row(GIVE, 0, 0), row(GIVE, 1, 0)), 5, 6, OK, 6);
        CoverageDesk desk = deskWith(row(GO, 0, 0), row(GIVE, 0, 0));
        runs(desk, 5, 6, LONG, 0);
        takenIs(desk, 0, 0, 200);
        desk = deskWith(row(ADD, 0, 0), row(GO, 0, 0));
        runs(desk, 5, 6, LONG, 0);
        takenIs(desk, 0, 0, 100);
        takenIs(desk, 0, 1, 100);
        // The place is b itself, not b & 3, and it is the same whatever w is.
        desk = deskWith(row(GO, 3, 6), row(THROW, 0, 0), row(GIVE, 0, 0), row(THROW, 0, 0), row(THROW, 0, 0), row(THROW, 0, 0),
                row(GIVE, 1, 0));
        runs(desk, 5, 6, OK, 6);
    }

    /** Ways 0 and 1 of this branch, for an input that leads by way k. */
    private static void branches(int op, int x, int k) {
        CoverageDesk desk = deskWith(row(op, 0, 2), row(GIVE, 2, 0), row(GIVE, 1, 0));
        runs(desk, x, 6, OK, k == 1 ? 6 : 0);
        takenIs(desk, 0, 0, 1 - k, k);
        // Both ways to the next, both outside, and way 1 to itself.
        desk = deskWith(row(op, 0, 1), row(GIVE, 1, 0));
        runs(desk, x, 6, OK, 6);
        takenIs(desk, 0, 0, 1 - k, k);
        for (int b : row(MIN, -1, 1, 24, MAX)) {
            desk = deskWith(row(op, 0, b));
            runs(desk, x, 6, OK, 0);
            takenIs(desk, 0, 0, 1 - k, k);
        }
        desk = deskWith(row(op, 0, 0), row(GIVE, 1, 0));
        runs(desk, x, 6, k == 1 ? LONG : OK, k == 1 ? 0 : 6);
        takenIs(desk, 0, 0, 1 - k, 200 * k);
        // The last one: way 0 leads outside, way 1 back.
        desk = deskWith(row(GO, 0, 2), row(GIVE, 1, 0), row(op, 0, 1));
        runs(desk, x, 6, OK, 6 * k);
        takenIs(desk, 0, 2, 1 - k, k);
        // What is looked at stays as it is.
        runs(deskWith(row(op, 0, 1), row(GIVE, 0, 0)), x, 6, OK, x);
    }

    private static void zero() {
        branches(ZERO, 0, 1);
        for (int x : row(MIN, -1, 1, MAX)) {
            branches(ZERO, x, 0);
        }
        looksAtEachVariable(ZERO, 0, 1);
    }

    private static void below() {
        for (int x : row(MIN, MIN + 1, -2, -1)) {
            branches(BELOW, x, 1);
        }
        for (int x : row(0, 1, MAX)) {
            branches(BELOW, x, 0);
        }
        looksAtEachVariable(BELOW, -1, 0);
    }

    /** Variable a alone has what leads by way 1; the others don't. */
    private static void looksAtEachVariable(int op, int yes, int no) {
        for (int a = 0; a < 4; a++) {
            CoverageDesk desk = deskWith(row(SET, 0, a == 0 ? yes : no), row(SET, 1, a == 1 ? yes : no),
                    row(SET, 2, a == 2 ? yes : no), row(SET, 3, a == 3 ? yes : no), row(op, a, 6), row(THROW, 0, 0),
                    row(GIVE, a, 0));
            runs(desk, 0, 0, OK, yes);
            takenIs(desk, 0, 4, 0, 1);
        }
    }

    private static void choiceOfWays() {
        int[][] cases = {row(MIN, 0), row(-3, 0), row(-2, 0), row(-1, 0), row(0, 0), row(1, 1), row(2, 2), row(3, 3), row(4, 0),
            row(5, 0), row(6, 0), row(7, 0), row(MAX, 0)};
        for (int[] one : cases) {
            CoverageDesk desk = deskWith(row(CHOICE, 0, 2), row(GIVE, 0, 0), row(GIVE, 0, 0), row(GIVE, 0, 0),
                    row(GIVE, 0, 0));
            runs(desk, one[0], 6, OK, one[0]);
            takenIs(desk, 0, 0, one[1] == 0 ? 1 : 0, one[1] == 1 ? 1 : 0, one[1] == 2 ? 1 : 0, one[1] == 3 ? 1 : 0);
            begunIs(desk, 0, 1, one[1] == 0 ? 1 : 0, one[1] == 1 ? 1 : 0, one[1] == 2 ? 1 : 0, one[1] == 3 ? 1 : 0);
        }
        for (int a = 0; a < 4; a++) {
            CoverageDesk desk = deskWith(row(SET, a, 2), row(CHOICE, a, 2), row(THROW, 0, 0), row(GIVE, a, 0));
            runs(desk, 0, 0, OK, 2);
            takenIs(desk, 0, 1, 0, 0, 1, 0);
        }
    }

    private static void choiceOfPlaces() {
        // Of three instructions, where b, b + 1 and b + 2 lead: each gives its own number, or it is outside.
        for (int b : row(MIN, MIN + 1, -4, -3, -2, -1, 0, 1, 2, 3, 4, 23, 24, MAX - 2, MAX - 1, MAX)) {
            for (int way = 1; way <= 3; way++) {
                CoverageDesk desk = deskWith(row(CHOICE, 0, b), row(ADD, 1, 100), row(GIVE, 1, 0));
                int place = b + way - 1;
                if (place == 0) {
                    runs(desk, way, 5, LONG, 0);
                } else {
                    runs(desk, way, 5, OK, place == 1 ? 105 : place == 2 ? 5 : 0);
                }
                due("taken(0, 0, " + way + ")", desk.taken(0, 0, way), place == 0 ? 200 : 1);
                due("taken(0, 0, 0)", desk.taken(0, 0, 0), 0);
            }
        }
    }

    private static void callVariables() {
        int[] seen = {31, 41, 0, 0};
        for (int a = 0; a < 4; a++) {
            for (int w = 0; w < 4; w++) {
                CoverageDesk desk = new CoverageDesk();
                define(desk, 0, row(SET, 0, 31), row(SET, 1, 41), row(SET, 2, 51), row(SET, 3, 61), row(CALL, w, 1),
                        row(GIVE, w, 0));
                define(desk, 1, row(GIVE, a, 0));
                runs(desk, 0, 0, OK, seen[a]);
            }
        }
        // What the called one does with its variables, and w alone being what it gives.
        for (int other = 0; other < 4; other++) {
            CoverageDesk desk = new CoverageDesk();
            define(desk, 0, row(SET, 0, 31), row(SET, 1, 41), row(SET, 2, 51), row(SET, 3, 61), row(CALL, 2, 1),
                    row(GIVE, other, 0));
            define(desk, 1, row(SET, 0, 1), row(SET, 1, 2), row(SET, 2, 3), row(SET, 3, 4), row(GIVE, 3, 0));
            runs(desk, 0, 0, OK, other == 2 ? 4 : 31 + 10 * other);
        }
        // Its variables 2 and 3 are 0 the second time, too.
        CoverageDesk desk = new CoverageDesk();
        define(desk, 0, row(CALL, 0, 1), row(CALL, 1, 1), row(SUB, 0, 1), row(GIVE, 0, 0));
        define(desk, 1, row(ADD, 2, 7), row(ADD, 3, 9), row(SUB, 3, 2), row(GIVE, 3, 0));
        runs(desk, 0, 0, OK, 0);
        define(desk, 0, row(CALL, 0, 1), row(CALL, 1, 1), row(GIVE, 1, 0));
        runs(desk, 0, 0, OK, 2);
        // Ending outside gives 0, for w, too.
        define(desk, 1, row(SET, 0, 4));
        define(desk, 0, row(CALL, 1, 1), row(GIVE, 1, 0));
        runs(desk, 8, 9, OK, 0);
    }

    private static void callOfNone() {
        for (int b = 0; b < 4; b++) {
            int caller = b == 0 ? 1 : 0;
            CoverageDesk desk = new CoverageDesk();
            define(desk, caller, row(CALL, 0, b), row(GIVE, 0, 0));
            runsMethod(desk, caller, 5, 6, THROWN, -1);
            due("begun", desk.begun(caller, 0), 1);
            takenIs(desk, caller, 0, 0);
            due("thrown", desk.thrown(caller, 0), 1);
            define(desk, b, row(GIVE, 1, 0));
            runsMethod(desk, caller, 5, 6, OK, 6);
            due("thrown as before", desk.thrown(caller, 0), 1);
            takenIs(desk, caller, 0, 1);
            due("define of nothing", desk.define(b), 0);
            runsMethod(desk, caller, 5, 6, THROWN, -1);
            due("thrown once more", desk.thrown(caller, 0), 2);
        }
        // w stays as it was.
        CoverageDesk desk = new CoverageDesk();
        guard(desk, 0, 0, 1);
        define(desk, 0, row(CALL, 1, 3), row(GIVE, 1, 0));
        runs(desk, 5, 6, OK, 6);
    }

    /** Method 0 calls itself y times, one inside the other, and what is given is how many were at work. */
    private static CoverageDesk nested(boolean handled) {
        CoverageDesk desk = new CoverageDesk();
        if (handled) {
            guard(desk, 3, 3, 6);
        }
        define(desk, 0, row(ADD, 0, 1), row(ZERO, 1, 5), row(ADD, 1, -1), row(CALL, 0, 0), row(GIVE, 0, 0), row(GIVE, 0, 0),
                row(ADD, 0, 100), row(GIVE, 0, 0));
        return desk;
    }

    private static void callTooDeep() {
        CoverageDesk desk = nested(false);
        for (int y = 0; y <= 5; y++) {
            runs(desk, 0, y, OK, y + 1);
        }
        due("nothing thrown yet", desk.thrown(0, 3), 0);
        runs(desk, 0, 6, THROWN, -2);
        due("thrown at all six", desk.thrown(0, 3), 6);
        due("reset(0)", desk.reset(0), OK);
        runs(desk, 0, 7, THROWN, -2);
        due("begun by six", desk.begun(0, 0), 6);
        // The sixth handles it and gives 98.
        desk = nested(true);
        runs(desk, 0, 6, OK, 98);
        due("thrown at the sixth alone", desk.thrown(0, 3), 1);
        takenIs(desk, 0, 3, 5);
        // After a run that was THROWN or LONG from deep inside none is at work.
        desk = nested(false);
        runs(desk, 0, 6, THROWN, -2);
        runs(desk, 0, 5, OK, 6);
        define(desk, 1, row(GO, 0, 0));
        define(desk, 2, row(CALL, 0, 1));
        due("run(2, 0, 0)", desk.run(2, 0, 0), LONG);
        runs(desk, 0, 5, OK, 6);
        // Those that were left by an exception are at work no more, either.
        define(desk, 1, row(THROW, 0, 0));
        for (int i = 0; i < 7; i++) {
            draft(desk, row(CALL, 0, 1));
        }
        guard(desk, 0, 0, 1);
        guard(desk, 1, 3, 4);
        guard(desk, 4, 6, 7);
        draft(desk, row(SET, 1, 4), row(CALL, 0, 0), row(GIVE, 0, 0));
        due("define(2)", desk.define(2), 10);
        runsMethod(desk, 2, 0, 0, OK, 5);
    }

    private static void give() {
        for (int value : row(MIN, -1, 0, 1, MAX)) {
            CoverageDesk desk = deskWith(row(GIVE, 0, 1), row(THROW, 0, 0));
            runs(desk, value, 6, OK, value);
            takenIs(desk, 0, 0, 1);
            begunIs(desk, 0, 1, 0);
        }
        // b leads nowhere, and as way 0 leads outside it counts for no line between instructions.
        CoverageDesk desk = deskWith(row(GIVE, 1, 1), row(GIVE, 0, 0));
        runs(desk, 5, 6, OK, 6);
        due("counters(0)", desk.counters(0), 2 + 1 - 3 + 1);
        stretchesAre(desk, 0, row(1, 1, 0, 0));
    }

    private static void throwsIt() {
        for (int value : row(MIN, -1, 0, 1, MAX)) {
            CoverageDesk desk = deskWith(row(THROW, 0, 1), row(GIVE, 0, 0));
            runs(desk, value, 6, THROWN, value);
            takenIs(desk, 0, 0);
            due("thrown(0, 0)", desk.thrown(0, 0), 1);
            begunIs(desk, 0, 1, 0);
        }
        for (int a = 0; a < 4; a++) {
            runs(deskWith(row(SET, a, 5 + a), row(THROW, a, 0)), 1, 2, THROWN, 5 + a);
        }
        CoverageDesk desk = deskWith(row(THROW, 0, 0));
        for (int k : row(MIN, -1, 0, 1, 2, 3, 4, MAX)) {
            due("taken(0, 0, " + k + ")", desk.taken(0, 0, k), BAD);
        }
        due("counters(0)", desk.counters(0), 0);
    }

    private static void part() {
        int[][] cases = {row(7, 2, 3), row(-7, 2, -3), row(7, -2, -3), row(-7, -2, 3), row(1, 2, 0), row(-1, 2, 0), row(1, -2, 0),
            row(0, 5, 0), row(0, -5, 0), row(0, MIN, 0), row(6, 3, 2), row(-6, 3, -2), row(MIN, -1, MIN), row(MIN, 1, MIN),
            row(MIN, 2, MIN / 2), row(MIN, MIN, 1), row(MIN, MAX, -1), row(MAX, MIN, 0), row(MAX, -1, -MAX), row(MAX, MAX, 1),
            row(MIN + 1, -1, MAX), row(-1, MIN, 0), row(-1, -1, 1)};
        for (int[] one : cases) {
            CoverageDesk desk = deskWith(row(PART, 0, 1), row(GIVE, 0, 0));
            runs(desk, one[0], one[1], OK, one[2]);
            takenIs(desk, 0, 0, 1);
            due("thrown(0, 0)", desk.thrown(0, 0), 0);
        }
        runs(deskWith(row(PART, 0, 0), row(GIVE, 0, 0)), MIN, 5, OK, 1);
        runs(deskWith(row(PART, 0, 1), row(GIVE, 1, 0)), 9, 3, OK, 3);
    }

    private static void partByZero() {
        for (int x : row(MIN, -1, 0, 1, MAX)) {
            CoverageDesk desk = deskWith(row(PART, 0, 1), row(GIVE, 0, 0));
            runs(desk, x, 0, THROWN, 0);
            takenIs(desk, 0, 0, 0);
            due("thrown(0, 0)", desk.thrown(0, 0), 1);
            begunIs(desk, 0, 1, 0);
        }
        runs(deskWith(row(PART, 0, 0), row(GIVE, 0, 0)), 0, 5, THROWN, 0);
        // w stays as it was, but variable 0 becomes the exception.
        CoverageDesk desk = new CoverageDesk();
        guard(desk, 0, 0, 1);
        define(desk, 0, row(PART, 1, 2), row(GIVE, 1, 0));
        runs(desk, 5, 6, OK, 6);
        guard(desk, 0, 0, 1);
        define(desk, 0, row(PART, 1, 2), row(GIVE, 0, 0));
        runs(desk, 5, 6, OK, 0);
    }

    private static void leadsOutside() {
        // Just behind the last instruction and just before the first, in a short and in a full method.
        for (int size : row(1, 2, 23, 24)) {
            for (int b : row(MIN, -1, size, size + 1, 24, MAX)) {
                CoverageDesk desk = new CoverageDesk();
                for (int i = 1; i < size; i++) {
                    draft(desk, row(SET, 2, 9));
                }
                draft(desk, row(GO, 0, b));
                due("define(0)", desk.define(0), size);
                runs(desk, 5, 6, OK, 0);
                due("taken", desk.taken(0, size - 1, 0), 1);
                stretchesAre(desk, 0, row(1, size, 0, size - 1));
            }
        }
        // The last instruction itself is inside.
        for (int size : row(2, 23, 24)) {
            CoverageDesk desk = new CoverageDesk();
            draft(desk, row(GO, 0, size - 1));
            for (int i = 1; i < size - 1; i++) {
                draft(desk, row(THROW, 0, 0));
            }
            draft(desk, row(GIVE, 1, 0));
            due("define(0)", desk.define(0), size);
            runs(desk, 5, 6, OK, 6);
        }
        // What stood there in a longer method before, or stands in the draft or in the next method, is no instruction.
        CoverageDesk desk = deskWith(row(SET, 0, 1), row(SET, 0, 1), row(SET, 0, 1), row(GIVE, 0, 0));
        define(desk, 0, row(GO, 0, 3), row(SET, 0, 5));
        define(desk, 1, row(GIVE, 0, 0), row(GIVE, 0, 0), row(GIVE, 0, 0), row(GIVE, 0, 0));
        draft(desk, row(GIVE, 0, 0), row(GIVE, 0, 0), row(GIVE, 0, 0), row(GIVE, 0, 0));
        runs(desk, 5, 6, OK, 0);
        begunIs(desk, 0, 1, 0);
        begunIs(desk, 1, 0, 0, 0, 0);
        for (int i = 4; i < 24; i++) {
            draft(desk, row(GO, 0, 24));
        }
        due("define(0) of 24", desk.define(0), 24);
        define(desk, 2, row(CALL, 1, 0), row(GIVE, 1, 0));
        define(desk, 0, row(GO, 0, 24));
        runsMethod(desk, 2, 5, 6, OK, 0);
        due("begun(1, 0)", desk.begun(1, 0), 0);
    }

    private static void firstHandler() {
        // Around instructions 2 and 3 of five that throw: 1 and 4 are beside it.
        for (int i = 1; i <= 4; i++) {
            CoverageDesk desk = new CoverageDesk();
            guard(desk, 2, 3, 5);
            define(desk, 0, row(GO, 0, i), row(THROW, 0, 0), row(THROW, 0, 0), row(THROW, 0, 0), row(THROW, 0, 0),
                    row(GIVE, 1, 0));
            boolean inside = i == 2 || i == 3;
            runs(desk, 5, 6, inside ? OK : THROWN, inside ? 6 : 5);
        }
        // From and to being the same.
        for (int i = 1; i <= 3; i++) {
            CoverageDesk desk = new CoverageDesk();
            guard(desk, 2, 2, 4);
            define(desk, 0, row(GO, 0, i), row(THROW, 0, 0), row(THROW, 0, 0), row(THROW, 0, 0), row(GIVE, 1, 0));
            runs(desk, 5, 6, i == 2 ? OK : THROWN, i == 2 ? 6 : 5);
        }
        // Of those around it the first drafted, be it wide or narrow; one that is not around it is passed by.
        int[][][] orders = {{row(0, 23, 1), row(0, 0, 2), row(0, 1, 3)}, {row(0, 0, 1), row(0, 23, 2), row(0, 1, 3)},
            {row(1, 23, 2), row(0, 0, 1), row(0, 23, 3)}, {row(1, 1, 2), row(2, 23, 3), row(0, 0, 1)}};
        for (int[][] order : orders) {
            CoverageDesk desk = new CoverageDesk();
            for (int[] one : order) {
                guard(desk, one[0], one[1], one[2]);
            }
            define(desk, 0, row(THROW, 0, 0), row(GIVE, 1, 0), row(SET, 1, 70), row(GIVE, 2, 0));
            runs(desk, 5, 6, OK, 6);
            begunIs(desk, 0, 1, 1, 0, 0);
        }
        // Handlers are those of the method in which it is, not of the one that called or is called.
        CoverageDesk desk = new CoverageDesk();
        guard(desk, 1, 1, 2);
        define(desk, 0, row(CALL, 0, 1), row(CALL, 0, 1), row(GIVE, 0, 0));
        guard(desk, 1, 23, 0);
        define(desk, 1, row(THROW, 0, 0));
        runs(desk, 5, 6, THROWN, 5);
        due("thrown(0, 0)", desk.thrown(0, 0), 1);
        due("thrown(0, 1)", desk.thrown(0, 1), 0);
        // And i is the number of the CALL there, not of what threw inside.
        for (int i = 0; i < 3; i++) {
            desk = new CoverageDesk();
            guard(desk, i, i, 3);
            define(desk, 0, row(ADD, 2, 1), row(CALL, 2, 1), row(GIVE, 0, 0), row(GIVE, 1, 0));
            define(desk, 1, row(ADD, 2, 1), row(ADD, 2, 1), row(THROW, 0, 0));
            runs(desk, 5, 6, i == 1 ? OK : THROWN, i == 1 ? 6 : 5);
        }
    }

    private static void goesOnAtItsAt() {
        for (int value : row(MIN, -1, 0, 1, MAX)) {
            CoverageDesk desk = new CoverageDesk();
            guard(desk, 0, 0, 1);
            define(desk, 0, row(THROW, 1, 0), row(GIVE, 0, 0));
            runs(desk, 7, value, OK, value);
        }
        // Variables 1, 2 and 3 stay.
        int[] after = {8, 22, 33, 44};
        for (int a = 0; a < 4; a++) {
            CoverageDesk desk = new CoverageDesk();
            guard(desk, 4, 4, 5);
            define(desk, 0, row(SET, 2, 33), row(SET, 3, 44), row(SET, 1, 22), row(SET, 0, 8), row(THROW, 0, 0),
                    row(GIVE, a, 0));
            runs(desk, 1, 2, OK, after[a]);
        }
        // Its at may be lower, or the same: then it throws again, until the run is LONG.
        CoverageDesk desk = new CoverageDesk();
        guard(desk, 2, 2, 1);
        define(desk, 0, row(GO, 0, 2), row(GIVE, 0, 0), row(THROW, 1, 0));
        runs(desk, 7, 9, OK, 9);
        guard(desk, 1, 1, 1);
        define(desk, 0, row(SET, 1, 4), row(THROW, 1, 0));
        runs(desk, 7, 9, LONG, 0);
        due("thrown(0, 1)", desk.thrown(0, 1), 199);
        stretchesAre(desk, 0, row(1, 2, 0, 1), row(198, 1, 1, 1));
        // An exception out of a CALL: w stays, variable 0 becomes x.
        for (int a = 1; a < 4; a++) {
            desk = new CoverageDesk();
            guard(desk, 1, 1, 2);
            define(desk, 0, row(SET, a, 55), row(CALL, a, 1), row(GIVE, a, 0));
            define(desk, 1, row(THROW, 0, 0));
            runs(desk, 7, 9, OK, 55);
        }
    }

    private static void handlerOutside() {
        for (int at = 0; at < 24; at++) {
            CoverageDesk desk = new CoverageDesk();
            guard(desk, 0, 0, at);
            define(desk, 0, row(THROW, 1, 0), row(GIVE, 0, 0), row(GIVE, 1, 0));
            runs(desk, 7, 9, at == 0 ? LONG : OK, at == 1 || at == 2 ? 9 : 0);
            due("thrown(0, 0)", desk.thrown(0, 0), at == 0 ? 200 : 1);
            due("stretches(0)", desk.stretches(0), at == 1 || at == 2 ? 2 : 1);
        }
        // A CALL gets that 0, and goes on by its way.
        CoverageDesk desk = new CoverageDesk();
        guard(desk, 0, 0, 23);
        define(desk, 1, row(THROW, 1, 0));
        define(desk, 0, row(CALL, 1, 1), row(GIVE, 1, 0));
        runs(desk, 7, 9, OK, 0);
        takenIs(desk, 0, 0, 1);
        due("thrown(0, 0)", desk.thrown(0, 0), 0);
        due("thrown(1, 0)", desk.thrown(1, 0), 1);
        // In a full method 23 is inside; in one of 23 it is not.
        for (int size = 23; size <= 24; size++) {
            desk = new CoverageDesk();
            guard(desk, 0, 0, 23);
            draft(desk, row(THROW, 1, 0));
            for (int i = 1; i < size; i++) {
                draft(desk, row(GIVE, 0, 0));
            }
            due("define(0)", desk.define(0), size);
            runs(desk, 7, 9, OK, size == 24 ? 9 : 0);
        }
    }

    private static void throughCalls() {
        // Methods 0 to 2 call the next; 3 calls itself until the sixth throws y.
        for (int handler = -1; handler < 3; handler++) {
            CoverageDesk desk = new CoverageDesk();
            for (int m = 0; m < 3; m++) {
                if (m == handler) {
                    guard(desk, 0, 0, 2);
                }
                define(desk, m, row(CALL, 2, m + 1), row(GIVE, 2, 0), row(ADD, 0, 1), row(GIVE, 0, 0));
            }
            define(desk, 3, row(ADD, 0, 1), row(CHOICE, 0, 4), row(THROW, 1, 0), row(GIVE, 2, 0), row(CALL, 2, 3),
                    row(CALL, 2, 3), row(THROW, 1, 0));
            runs(desk, 0, 40, handler < 0 ? THROWN : OK, handler < 0 ? 40 : 41);
            for (int m = 0; m < 3; m++) {
                due("thrown(" + m + ", 0)", desk.thrown(m, 0), m >= handler ? 1 : 0);
                takenIs(desk, m, 0, m < handler ? 1 : 0);
            }
            due("thrown(3, 4)", desk.thrown(3, 4), 1);
            due("thrown(3, 5)", desk.thrown(3, 5), 1);
            due("thrown(3, 6)", desk.thrown(3, 6), 1);
            due("thrown(3, 2)", desk.thrown(3, 2), 0);
        }
    }

    private static void twoHundred() {
        // 197, 200 and, cut off, 203.
        CoverageDesk desk = deskWithLoop();
        runs(desk, 65, 5, OK, 5);
        begunIs(desk, 0, 66, 65, 65, 1);
        due("reset(0)", desk.reset(0), OK);
        runs(desk, 66, 5, OK, 5);
        begunIs(desk, 0, 67, 66, 66, 1);
        due("reset(0)", desk.reset(0), OK);
        runs(desk, 67, 5, LONG, 0);
        begunIs(desk, 0, 67, 67, 66, 0);
        // One before the loop: 198 and, cut off, 201.
        desk = deskWith(row(ADD, 0, -1), row(ZERO, 0, 4), row(ADD, 0, -1), row(GO, 0, 1), row(GIVE, 1, 0));
        runs(desk, 66, 5, OK, 5);
        due("reset(0)", desk.reset(0), OK);
        runs(desk, 67, 5, LONG, 0);
        begunIs(desk, 0, 1, 67, 66, 66, 0);
        takenIs(desk, 0, 1, 66, 1);
        // Two before the loop: 199 and, cut off, 202.
        desk = deskWith(row(ADD, 0, 0), row(ADD, 0, 0), row(ZERO, 0, 5), row(ADD, 0, -1), row(GO, 0, 2), row(GIVE, 1, 0));
        runs(desk, 65, 5, OK, 5);
        due("reset(0)", desk.reset(0), OK);
        runs(desk, 66, 5, LONG, 0);
        // Each run has its own 200.
        runs(desk, 65, 5, OK, 5);
        runs(desk, 65, 5, OK, 5);
        // And those of all its invocations count together.
        desk = new CoverageDesk();
        define(desk, 0, row(CALL, 2, 1), row(CALL, 3, 1), row(SUB, 3, 2), row(GIVE, 1, 0));
        draftLoop(desk);
        due("define(1)", desk.define(1), 4);
        runs(desk, 32, 5, OK, 5);
        due("the 200 of all", desk.begun(1, 0) + desk.begun(1, 1) + desk.begun(1, 2) + desk.begun(1, 3) + 4, 200);
        draftLoop(desk);
        due("define(1)", desk.define(1), 4);
        runs(desk, 33, 5, LONG, 0);
        due("all but those of method 0", desk.begun(1, 0) + desk.begun(1, 1) + desk.begun(1, 2) + desk.begun(1, 3), 198);
        begunIs(desk, 0, 2, 2, 1, 1);
    }

    private static void aFurtherOne() {
        // The 200th leads outside, by each kind of way out: no further one, so it is not LONG.
        int[][] lasts = {row(GIVE, 1, 0), row(SET, 0, 0), row(GO, 0, 24), row(ZERO, 0, 24), row(PART, 0, 1)};
        for (int[] last : lasts) {
            CoverageDesk desk = deskWith(row(ZERO, 0, 3), row(ADD, 0, -1), row(GO, 0, 0), last);
            runs(desk, 66, 5, OK, last[0] == GIVE ? 5 : 0);
        }
        // The 200th throws: through all invocations, or into a handler outside.
        CoverageDesk desk = deskWith(row(ZERO, 0, 3), row(ADD, 0, -1), row(GO, 0, 0), row(THROW, 1, 0));
        runs(desk, 66, 5, THROWN, 5);
        define(desk, 1, row(CALL, 0, 0));
        define(desk, 2, row(ADD, 0, 0), row(ADD, 0, 0), row(CALL, 0, 1));
        runsMethod(desk, 2, 64, 5, THROWN, 5);
        due("198 begun, and 65 more threes", desk.begun(0, 0), 67 + 65);
        guard(desk, 2, 2, 3);
        define(desk, 2, row(ADD, 0, 0), row(ADD, 0, 0), row(CALL, 0, 1));
        runsMethod(desk, 2, 64, 5, OK, 0);
        // The 200th ends the called one, and the CALL was the last: it ends, too, but for one that goes on.
        draftLoop(desk);
        due("define(0)", desk.define(0), 4);
        define(desk, 1, row(ADD, 0, 0), row(ADD, 0, 0), row(CALL, 0, 0));
        runsMethod(desk, 1, 65, 5, OK, 0);
        takenIs(desk, 1, 2, 1);
        define(desk, 1, row(ADD, 0, 0), row(ADD, 0, 0), row(CALL, 0, 0), row(GIVE, 0, 0));
        runsMethod(desk, 1, 65, 5, LONG, 0);
        takenIs(desk, 1, 2, 1);
        begunIs(desk, 1, 1, 1, 1, 0);
    }

    private static void overAtOnce() {
        // What the 200th did is done, what a further one would do is not.
        CoverageDesk desk = deskWith(row(CALL, 0, 1), row(GIVE, 0, 0));
        define(desk, 1, row(GO, 0, 0));
        runs(desk, 5, 6, LONG, 0);
        begunIs(desk, 0, 1, 0);
        takenIs(desk, 0, 0, 0);
        due("thrown(0, 0)", desk.thrown(0, 0), 0);
        begunIs(desk, 1, 199);
        takenIs(desk, 1, 0, 199);
        // No handler hears of it.
        guard(desk, 0, 23, 1);
        define(desk, 0, row(CALL, 0, 1), row(GIVE, 1, 0));
        guard(desk, 0, 23, 0);
        define(desk, 1, row(GO, 0, 0));
        runs(desk, 5, 6, LONG, 0);
        begunIs(desk, 0, 1, 0);
        due("thrown(1, 0)", desk.thrown(1, 0), 0);
        // The 200th is a CALL whose method isn't there, or is there and begins nothing any more.
        define(desk, 0, row(ZERO, 0, 3), row(ADD, 0, -1), row(GO, 0, 0), row(CALL, 0, 1));
        due("define(1) of nothing", desk.define(1), 0);
        runs(desk, 66, 6, THROWN, -1);
        define(desk, 1, row(GIVE, 0, 0));
        runs(desk, 66, 6, LONG, 0);
        begunIs(desk, 1, 0);
        due("thrown(0, 3)", desk.thrown(0, 3), 1);
        takenIs(desk, 0, 3, 0);
    }

    private static void dataSince() {
        CoverageDesk desk = new CoverageDesk();
        guard(desk, 1, 1, 2);
        define(desk, 0, row(ZERO, 0, 2), row(THROW, 0, 0), row(GIVE, 0, 0));
        guard(desk, 1, 1, 2);
        define(desk, 1, row(ZERO, 0, 2), row(THROW, 0, 0), row(GIVE, 0, 0));
        for (int n = 1; n <= 3; n++) {
            for (int m = 0; m < 2; m++) {
                runsMethod(desk, m, 0, 0, OK, 0);
                runsMethod(desk, m, 9, 0, OK, 9);
                begunIs(desk, m, 2 * n, n, 2 * n);
                takenIs(desk, m, 0, n, n);
                due("thrown", desk.thrown(m, 1), n);
                due("stretches", desk.stretches(m), 3);
                stretchIs(desk, m, 0, n, 2, 0, 2);
                stretchIs(desk, m, 1, n, 2, 0, 1);
                stretchIs(desk, m, 2, n, 1, 2, 2);
            }
        }
        due("reset(0)", desk.reset(0), OK);
        guard(desk, 1, 1, 2);
        define(desk, 1, row(ZERO, 0, 2), row(THROW, 0, 0), row(GIVE, 0, 0));
        for (int m = 0; m < 2; m++) {
            begunIs(desk, m, 0, 0, 0);
            takenIs(desk, m, 0, 0, 0);
            takenIs(desk, m, 2, 0);
            due("thrown", desk.thrown(m, 1), 0);
            stretchesAre(desk, m);
            runsMethod(desk, m, 9, 0, OK, 9);
            begunIs(desk, m, 1, 1, 1);
            stretchesAre(desk, m, row(1, 2, 0, 1), row(1, 1, 2, 2));
        }
    }
}
