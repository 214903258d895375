/** Each sentence about stretches that names a boundary case: where they begin and end, and how many are told apart. */
public final class StretchEdgeTest extends Checks {
    public static void main(String[] args) {
        about("a row of instructions, each to a higher number", StretchEdgeTest::risingRows);
        about("with the ways between them", StretchEdgeTest::waysBetween);
        about("with the ways between them, at each place", StretchEdgeTest::waysAtEachPlace);
        about("it begins with the invocation", StretchEdgeTest::beginsWithInvocation);
        about("begins behind, and ends with, a way to the same or a lower number", StretchEdgeTest::sameOrLower);
        about("begins at a handler's at", StretchEdgeTest::beginsAtHandler);
        about("ends with a way outside", StretchEdgeTest::endsOutside);
        about("ends with an exception", StretchEdgeTest::endsWithException);
        about("or when the run is LONG, the last invocation first", StretchEdgeTest::endsWhenLong);
        about("rows without an instruction are none", StretchEdgeTest::emptyRows);
        about("while a CALL is at work the stretch goes on", StretchEdgeTest::goesOnDuringCall);
        about("in the order in which they ended first", StretchEdgeTest::orderOfFirstEnds);
        about("the first 40 different ones", StretchEdgeTest::firstForty);
        about("others are not counted", StretchEdgeTest::othersAreNot);
        about("each method has 40 of its own", StretchEdgeTest::fortyEach);
        about("stretch: BAD if there is none, or what is another", StretchEdgeTest::refusedQuestions);
        tellAndExit("all edges of the stretches hold");
    }

    private static void risingRows() {
        // One instruction, and all 24.
        CoverageDesk desk = deskWith(row(GIVE, 0, 0));
        runs(desk, 5, 6, OK, 5);
        stretchesAre(desk, 0, row(1, 1, 0, 0));
        for (int i = 0; i < 24; i++) {
            draft(desk, row(ADD, 0, 0));
        }
        due("define(1)", desk.define(1), 24);
        runsMethod(desk, 1, 5, 6, OK, 0);
        stretchesAre(desk, 1, row(1, 24, 0, 23));
        // From the first to the last in one step, and by the next one.
        draft(desk, row(ZERO, 0, 23));
        for (int i = 1; i < 23; i++) {
            draft(desk, row(GO, 0, i + 1));
        }
        draft(desk, row(GIVE, 0, 0));
        due("define(2)", desk.define(2), 24);
        runsMethod(desk, 2, 0, 6, OK, 0);
        runsMethod(desk, 2, 1, 6, OK, 1);
        runsMethod(desk, 2, 0, 6, OK, 0);
        stretchesAre(desk, 2, row(2, 2, 0, 23), row(1, 24, 0, 23));
        // The same first, last and number, but others between.
        define(desk, 3, row(CHOICE, 0, 1), row(GO, 0, 4), row(GO, 0, 4), row(GO, 0, 4), row(GIVE, 0, 0));
        for (int x = 1; x <= 3; x++) {
            runsMethod(desk, 3, x, 6, OK, x);
        }
        stretchesAre(desk, 3, row(1, 3, 0, 4), row(1, 3, 0, 4), row(1, 3, 0, 4));
    }

    private static void waysBetween() {
        // All four ways of a CHOICE: 0 and 1 lead to the same.
        CoverageDesk desk = deskWith(row(CHOICE, 0, 1), row(ADD, 2, 1), row(ADD, 2, 1), row(GIVE, 2, 0));
        for (int x = 0; x <= 4; x++) {
            runs(desk, x, 6, OK, x == 2 ? 1 : x == 3 ? 0 : 2);
        }
        stretchesAre(desk, 0, row(2, 4, 0, 3), row(1, 4, 0, 3), row(1, 3, 0, 3), row(1, 2, 0, 3));
        // At the last place but one of a full method, too.
        for (int i = 0; i < 22; i++) {
            draft(desk, row(ADD, 2, 1));
        }
        draft(desk, row(CHOICE, 0, 23), row(GIVE, 2, 0));
        due("define(1)", desk.define(1), 24);
        runsMethod(desk, 1, 0, 6, OK, 22);
        runsMethod(desk, 1, 1, 6, OK, 22);
        runsMethod(desk, 1, 2, 6, OK, 0);
        stretchesAre(desk, 1, row(1, 24, 0, 23), row(1, 24, 0, 23), row(1, 23, 0, 22));
        // The way at the end is between none: by it, by an exception or cut off it is the same stretch.
        define(desk, 2, row(ADD, 2, 1), row(CHOICE, 0, 24));
        for (int x = 0; x <= 3; x++) {
            runsMethod(desk, 2, x, 6, OK, 0);
        }
        stretchesAre(desk, 2, row(4, 2, 0, 1));
        define(desk, 2, row(ADD, 2, 1), row(PART, 0, 1));
        runsMethod(desk, 2, 5, 1, OK, 0);
        runsMethod(desk, 2, 5, 0, THROWN, 0);
        stretchesAre(desk, 2, row(2, 2, 0, 1));
        // Ways back, to each of 0, 1 and 2: what is gone before them is the same row.
        define(desk, 2, row(ADD, 2, 1), row(ADD, 2, 1), row(CHOICE, 0, 0), row(GIVE, 2, 0));
        for (int x = 1; x <= 3; x++) {
            runsMethod(desk, 2, x, 6, LONG, 0);
        }
        stretchesAre(desk, 2, row(66 + 1 + 1, 3, 0, 2), row(1, 2, 0, 1), row(98, 2, 1, 2), row(1, 1, 1, 1), row(197, 1, 2, 2));
        // Ways forwards behind which the run is LONG: they are between none, either.
        define(desk, 2, row(ADD, 2, 1), row(CHOICE, 0, 2), row(GO, 0, 0), row(GO, 0, 0), row(GO, 0, 0));
        for (int x = 0; x <= 3; x++) {
            runsMethod(desk, 2, x, 6, LONG, 0);
        }
        stretchesAre(desk, 2, row(66, 3, 0, 2), row(4, 2, 0, 1), row(66, 3, 0, 2), row(66, 3, 0, 3), row(66, 3, 0, 4));
        // The same ways at the end and between are told apart.
        define(desk, 2, row(ZERO, 0, 1), row(ZERO, 1, 0), row(GIVE, 3, 0));
        runsMethod(desk, 2, 0, 1, OK, 0);
        runsMethod(desk, 2, 1, 1, OK, 0);
        runsMethod(desk, 2, 0, 0, LONG, 0);
        runsMethod(desk, 2, 1, 0, LONG, 0);
        stretchesAre(desk, 2, row(1, 3, 0, 2), row(1, 3, 0, 2), row(100, 2, 0, 1), row(100, 2, 0, 1));
    }

    /** A CHOICE at i and one at j, each with way 0 and another one to the next: the ways alone tell four rows apart. */
    private static void waysAtEachPlace() {
        for (int i = 0; i < 22; i++) {
            for (int j = i + 1; j < 23; j++) {
                for (int ways = 0; ways < 9; ways++) {
                    tellsFourApart(i, 1 + ways / 3, j, 1 + ways % 3);
                }
            }
        }
    }

    private static void tellsFourApart(int i, int k, int j, int l) {
        CoverageDesk desk = new CoverageDesk();
        for (int n = 0; n < 24; n++) {
            draft(desk, n == i ? row(CHOICE, 0, i + 2 - k) : n == j ? row(CHOICE, 1, j + 2 - l) : row(ADD, 2, 1));
        }
        due("define(0)", desk.define(0), 24);
        runs(desk, 0, 0, OK, 0);
        runs(desk, k, 0, OK, 0);
        runs(desk, 0, l, OK, 0);
        runs(desk, k, l, OK, 0);
        runs(desk, k, 0, OK, 0);
        stretchesAre(desk, 0, row(1, 24, 0, 23), row(2, 24, 0, 23), row(1, 24, 0, 23), row(1, 24, 0, 23));
    }

    private static void beginsWithInvocation() {
        // Twice called, and itself once: three stretches of the same kind.
        CoverageDesk desk = deskWith(row(CALL, 2, 1), row(CALL, 3, 1), row(GIVE, 3, 0));
        define(desk, 1, row(ADD, 0, 1), row(GIVE, 0, 0));
        runs(desk, 5, 6, OK, 6);
        runsMethod(desk, 1, 5, 6, OK, 6);
        stretchesAre(desk, 0, row(1, 3, 0, 2));
        stretchesAre(desk, 1, row(3, 2, 0, 1));
        // A method inside itself: each invocation has its own row.
        define(desk, 2, row(ZERO, 0, 3), row(ADD, 0, -1), row(CALL, 0, 2), row(GIVE, 0, 0));
        runsMethod(desk, 2, 5, 6, OK, 0);
        stretchesAre(desk, 2, row(1, 2, 0, 3), row(5, 4, 0, 3));
        // What a run before left behind, cut off, is in no row of the next.
        define(desk, 3, row(ADD, 2, 1), row(ZERO, 0, 1), row(GIVE, 2, 0));
        runsMethod(desk, 3, 0, 6, LONG, 0);
        runsMethod(desk, 3, 1, 6, OK, 1);
        stretchesAre(desk, 3, row(1, 2, 0, 1), row(198, 1, 1, 1), row(1, 3, 0, 2));
    }

    private static void sameOrLower() {
        // To the same: each time one of a single instruction.
        CoverageDesk desk = deskWith(row(GO, 0, 0));
        runs(desk, 5, 6, LONG, 0);
        stretchesAre(desk, 0, row(200, 1, 0, 0));
        // To the next it goes on; to the one before it ends.
        define(desk, 1, row(GO, 0, 1), row(GO, 0, 2), row(GIVE, 0, 0));
        runsMethod(desk, 1, 5, 6, OK, 5);
        stretchesAre(desk, 1, row(1, 3, 0, 2));
        define(desk, 1, row(GO, 0, 2), row(GIVE, 0, 0), row(GO, 0, 1));
        runsMethod(desk, 1, 5, 6, OK, 5);
        stretchesAre(desk, 1, row(1, 2, 0, 2), row(1, 1, 1, 1));
        define(desk, 1, row(ADD, 0, -1), row(ZERO, 0, 3), row(GO, 0, 0), row(GIVE, 1, 0));
        runsMethod(desk, 1, 3, 6, OK, 6);
        stretchesAre(desk, 1, row(2, 3, 0, 2), row(1, 3, 0, 3));
        // By each kind of branch, to itself and to 0.
        for (int op : row(ZERO, BELOW, CHOICE)) {
            int x = op == ZERO ? 0 : op == BELOW ? -1 : 1;
            define(desk, 2, row(ADD, 1, 1), row(op, 0, 1), row(GIVE, 1, 0));
            runsMethod(desk, 2, x, 0, LONG, 0);
            stretchesAre(desk, 2, row(1, 2, 0, 1), row(198, 1, 1, 1));
            define(desk, 2, row(ADD, 1, 1), row(op, 0, 0), row(GIVE, 1, 0));
            runsMethod(desk, 2, x, 0, LONG, 0);
            stretchesAre(desk, 2, row(100, 2, 0, 1));
        }
        // A CHOICE with one way lower, one to itself and one higher.
        define(desk, 3, row(GO, 0, 2), row(GIVE, 1, 0), row(CHOICE, 0, 1), row(GIVE, 1, 0));
        runsMethod(desk, 3, 1, 6, OK, 6);
        runsMethod(desk, 3, 3, 6, OK, 6);
        runsMethod(desk, 3, 0, 6, OK, 6);
        runsMethod(desk, 3, 2, 6, LONG, 0);
        stretchesAre(desk, 3, row(2, 2, 0, 2), row(1, 1, 1, 1), row(1, 3, 0, 3), row(1, 3, 0, 3), row(198, 1, 2, 2));
    }

    private static void beginsAtHandler() {
        // At a higher number, at the same, at a lower.
        for (int at : row(0, 2, 3)) {
            CoverageDesk desk = new CoverageDesk();
            guard(desk, 2, 2, at);
            define(desk, 0, row(ZERO, 0, 2), row(GIVE, 1, 0), row(PART, 3, 0), row(GIVE, 1, 0));
            runs(desk, 0, 6, at == 3 ? OK : LONG, at == 3 ? 6 : 0);
            if (at == 0) {
                stretchesAre(desk, 0, row(100, 2, 0, 2));
            } else if (at == 2) {
                stretchesAre(desk, 0, row(1, 2, 0, 2), row(198, 1, 2, 2));
            } else {
                stretchesAre(desk, 0, row(1, 2, 0, 2), row(1, 1, 3, 3));
            }
        }
        // A way to a handler's at begins none.
        CoverageDesk desk = new CoverageDesk();
        guard(desk, 0, 0, 1);
        define(desk, 0, row(PART, 0, 1), row(ADD, 0, 1), row(GIVE, 0, 0));
        runs(desk, 8, 2, OK, 5);
        stretchesAre(desk, 0, row(1, 3, 0, 2));
        runs(desk, 8, 0, OK, 1);
        stretchesAre(desk, 0, row(1, 3, 0, 2), row(1, 1, 0, 0), row(1, 2, 1, 2));
    }

    private static void endsOutside() {
        // By GIVE, behind the last one, and by ways to both sides: all of the same row.
        for (int[] last : new int[][] {row(GIVE, 0, 0), row(SET, 0, 0), row(GO, 0, -1), row(GO, 0, 2), row(GO, 0, MAX),
            row(GO, 0, MIN), row(ZERO, 2, -1), row(ZERO, 2, 24), row(BELOW, 2, 0), row(CHOICE, 2, 0), row(PART, 0, 1)}) {
            CoverageDesk desk = deskWith(row(ADD, 0, 1), last);
            runs(desk, 5, 6, OK, last[0] == GIVE ? 6 : 0);
            runs(desk, 5, 6, OK, last[0] == GIVE ? 6 : 0);
            stretchesAre(desk, 0, row(2, 2, 0, 1));
        }
    }

    private static void endsWithException() {
        // Of a THROW, a PART, a CALL of none: with a handler and without one.
        for (int[] last : new int[][] {row(THROW, 0, 0), row(PART, 0, 3), row(CALL, 0, 3)}) {
            CoverageDesk desk = deskWith(row(ADD, 0, 1), last, row(GIVE, 1, 0));
            due("run(0, 5, 6)", desk.run(0, 5, 6), THROWN);
            stretchesAre(desk, 0, row(1, 2, 0, 1));
            guard(desk, 1, 1, 2);
            define(desk, 0, row(ADD, 0, 1), last, row(GIVE, 1, 0));
            runs(desk, 5, 6, OK, 6);
            stretchesAre(desk, 0, row(1, 2, 0, 1), row(1, 1, 2, 2));
        }
        // Out of a CALL: first the row that threw, then the one of the CALL.
        CoverageDesk desk = deskWith(row(ADD, 0, -1), row(ZERO, 0, 3), row(CALL, 0, 0), row(THROW, 1, 0));
        runs(desk, 3, 6, THROWN, 6);
        stretchesAre(desk, 0, row(1, 3, 0, 3), row(2, 3, 0, 2));
        // Of the CALL that is one too many: six rows, all alike.
        define(desk, 0, row(ADD, 0, 1), row(CALL, 0, 0));
        runs(desk, 0, 0, THROWN, -2);
        stretchesAre(desk, 0, row(6, 2, 0, 1));
    }

    private static void endsWhenLong() {
        // 200 are 66 times 3 and 2: the last row is cut in its middle.
        CoverageDesk cut = deskWith(row(ADD, 2, 1), row(ADD, 2, 1), row(GO, 0, 0));
        runs(cut, 0, 0, LONG, 0);
        stretchesAre(cut, 0, row(66, 3, 0, 2), row(1, 2, 0, 1));
        // With a CALL around it both are cut, and what is cut is told apart like any other.
        define(cut, 1, row(ADD, 2, 1), row(CALL, 2, 0), row(GIVE, 2, 0));
        runsMethod(cut, 1, 0, 0, LONG, 0);
        stretchesAre(cut, 1, row(1, 2, 0, 1));
        stretchesAre(cut, 0, row(132, 3, 0, 2), row(1, 2, 0, 1));
        define(cut, 1, row(CALL, 2, 0), row(GIVE, 2, 0));
        runsMethod(cut, 1, 0, 0, LONG, 0);
        stretchesAre(cut, 1, row(1, 1, 0, 0));
        stretchesAre(cut, 0, row(198, 3, 0, 2), row(1, 2, 0, 1), row(1, 1, 0, 0));
        // Cut behind its first instruction: 3, 98 times 2 and 1.
        define(cut, 2, row(ZERO, 0, 2), row(GIVE, 0, 0), row(ADD, 2, 1), row(GO, 0, 2));
        runsMethod(cut, 2, 0, 0, LONG, 0);
        stretchesAre(cut, 2, row(1, 3, 0, 3), row(98, 2, 2, 3), row(1, 1, 2, 2));
        // Six at work, each with a row of its own length: x counts how deep it is.
        CoverageDesk desk = new CoverageDesk();
        define(desk, 0, row(CALL, 2, 1));
        define(desk, 1, row(ADD, 2, 1), row(CALL, 2, 2));
        define(desk, 2, row(ADD, 0, 1), row(CHOICE, 0, 5), row(ADD, 2, 1), row(ADD, 2, 1), row(GO, 0, 4), row(CALL, 2, 2),
                row(ADD, 2, 1), row(CALL, 2, 2));
        runs(desk, 0, 0, LONG, 0);
        stretchesAre(desk, 0, row(1, 1, 0, 0));
        stretchesAre(desk, 1, row(1, 2, 0, 1));
        // The sixth begins 187, the five around it 13; those end from the inside out.
        stretchesAre(desk, 2, row(1, 5, 0, 4), row(182, 1, 4, 4), row(1, 3, 0, 7), row(1, 4, 0, 7), row(1, 3, 0, 5));
    }

    private static void emptyRows() {
        // Cut off just behind a way back: the row that would begin there is none.
        CoverageDesk desk = deskWith(row(ADD, 0, 1), row(GO, 0, 0));
        runs(desk, 0, 0, LONG, 0);
        stretchesAre(desk, 0, row(100, 2, 0, 1));
        // Cut off behind an exception, before the handler's at.
        guard(desk, 1, 1, 0);
        define(desk, 0, row(ADD, 0, 1), row(THROW, 0, 0));
        runs(desk, 0, 0, LONG, 0);
        stretchesAre(desk, 0, row(100, 2, 0, 1));
        // Cut off behind a CALL, before what it called has begun; the CALL's own row is one.
        define(desk, 2, row(GIVE, 0, 0));
        define(desk, 1, row(ZERO, 0, 3), row(ADD, 0, -1), row(GO, 0, 0), row(CALL, 0, 2));
        runsMethod(desk, 1, 66, 0, LONG, 0);
        stretchesAre(desk, 1, row(66, 3, 0, 2), row(1, 2, 0, 3));
        stretchesAre(desk, 2);
        // A handler that leads outside begins none.
        guard(desk, 0, 0, 23);
        define(desk, 3, row(THROW, 0, 0));
        runsMethod(desk, 3, 5, 0, OK, 0);
        stretchesAre(desk, 3, row(1, 1, 0, 0));
    }

    private static void goesOnDuringCall() {
        CoverageDesk desk = deskWith(row(ADD, 0, 1), row(CALL, 2, 1), row(CALL, 2, 1), row(ADD, 0, 1), row(GIVE, 0, 0));
        // What is called has ways back, a handler and calls of its own.
        guard(desk, 2, 2, 3);
        define(desk, 1, row(ADD, 3, 1), row(GO, 0, 4), row(THROW, 1, 0), row(GIVE, 0, 0), row(CALL, 0, 2), row(GO, 0, 2));
        define(desk, 2, row(GIVE, 0, 0));
        runs(desk, 5, 6, OK, 7);
        stretchesAre(desk, 0, row(1, 5, 0, 4));
        stretchesAre(desk, 1, row(2, 4, 0, 5), row(2, 1, 2, 2), row(2, 1, 3, 3));
        stretchesAre(desk, 2, row(2, 1, 0, 0));
        // A CALL as the last one, back from which the way leads outside.
        define(desk, 0, row(ADD, 0, 1), row(CALL, 2, 2));
        runs(desk, 5, 6, OK, 0);
        stretchesAre(desk, 0, row(1, 2, 0, 1));
    }

    private static void orderOfFirstEnds() {
        // The one that began first ends last; the order does not change with later ends.
        CoverageDesk desk = deskWith(row(ADD, 0, -1), row(CHOICE, 0, 3), row(GIVE, 0, 0), row(CALL, 2, 0), row(CALL, 2, 0));
        runs(desk, 3, 6, OK, 0);
        stretchesAre(desk, 0, row(2, 3, 0, 2), row(1, 4, 0, 4), row(1, 3, 0, 4));
        runs(desk, 3, 6, OK, 0);
        runs(desk, 2, 6, OK, 0);
        runs(desk, 1, 6, OK, 0);
        stretchesAre(desk, 0, row(7, 3, 0, 2), row(3, 4, 0, 4), row(2, 3, 0, 4));
        due("reset(0)", desk.reset(0), OK);
        runs(desk, 1, 6, OK, 0);
        runs(desk, 2, 6, OK, 0);
        runs(desk, 3, 6, OK, 0);
        stretchesAre(desk, 0, row(5, 3, 0, 2), row(2, 4, 0, 4), row(1, 3, 0, 4));
    }

    private static void fillForty(CoverageDesk desk, int m) {
        for (int n = 0; n < 40; n++) {
            due("run", desk.run(m, n % 11, n / 11), OK);
            due("stretches after " + (n + 1), desk.stretches(m), n + 1);
        }
    }

    private static CoverageDesk deskWithForty() {
        CoverageDesk desk = new CoverageDesk();
        draftMaze(desk);
        due("define(0)", desk.define(0), 24);
        fillForty(desk, 0);
        return desk;
    }

    private static void firstForty() {
        CoverageDesk desk = deskWithForty();
        for (int k = 0; k < 40; k++) {
            stretchIs(desk, 0, k, 1, k < 22 ? 24 : k < 33 ? 23 : 22, 0, 23);
        }
        // Each of the 40 is still counted when there is no room for others.
        for (int k : row(0, 1, 38, 39)) {
            due("run", desk.run(0, k % 11, k / 11), OK);
            due("stretch(0, " + k + ", 0)", desk.stretch(0, k, 0), 2);
        }
        due("stretches(0)", desk.stretches(0), 40);
    }

    private static void othersAreNot() {
        CoverageDesk desk = deskWithForty();
        // The 41st to the 44th, twice each.
        for (int n = 0; n < 8; n++) {
            due("run", desk.run(0, 7 + n % 4, 3), OK);
            due("stretches(0)", desk.stretches(0), 40);
            due("stretch(0, 40, 0)", desk.stretch(0, 40, 0), BAD);
        }
        int gone = 0;
        for (int k = 0; k < 40; k++) {
            gone += desk.stretch(0, k, 0);
        }
        due("all that are counted", gone, 40);
        due("begun counts on", desk.begun(0, 0), 48);
        due("taken counts on", desk.taken(0, 20, 3), 7 + 8);
        // None of the 40 has made room: each is still itself.
        for (int k = 0; k < 40; k++) {
            due("run", desk.run(0, k % 11, k / 11), OK);
            due("stretch(0, " + k + ", 0)", desk.stretch(0, k, 0), 2);
        }
        // With a reset, or defined anew, there is room for them.
        due("reset(0)", desk.reset(0), OK);
        due("run", desk.run(0, 10, 3), OK);
        stretchesAre(desk, 0, row(1, 22, 0, 23));
        draftMaze(desk);
        due("define(0)", desk.define(0), 24);
        stretchesAre(desk, 0);
        due("run", desk.run(0, 9, 3), OK);
        due("run", desk.run(0, 10, 3), OK);
        stretchesAre(desk, 0, row(1, 22, 0, 23), row(1, 22, 0, 23));
    }

    private static void fortyEach() {
        CoverageDesk desk = new CoverageDesk();
        for (int m = 0; m < 4; m++) {
            draftMaze(desk);
            due("define(" + m + ")", desk.define(m), 24);
        }
        for (int m = 3; m >= 0; m--) {
            fillForty(desk, m);
            due("run of a 41st", desk.run(m, 10, 3), OK);
        }
        for (int m = 0; m < 4; m++) {
            due("stretches(" + m + ")", desk.stretches(m), 40);
            stretchIs(desk, m, 0, 1, 24, 0, 23);
            stretchIs(desk, m, 39, 1, 22, 0, 23);
        }
        due("reset(1)", desk.reset(1), OK);
        for (int m = 0; m < 4; m++) {
            due("stretches(" + m + ")", desk.stretches(m), m == 1 ? 0 : 40);
        }
    }

    private static void refusedQuestions() {
        CoverageDesk desk = deskWithLoop();
        due("stretch(0, 0, 0) before any run", desk.stretch(0, 0, 0), BAD);
        due("stretches(0) before any run", desk.stretches(0), 0);
        runs(desk, 1, 5, OK, 5);
        stretchesAre(desk, 0, row(1, 3, 0, 2), row(1, 2, 0, 3));
        leavesAll("a refused question", desk, () -> {
            for (int what = 0; what < 4; what++) {
                for (int k : row(MIN, -1, 2, 3, 39, 40, 41, MAX)) {
                    due("stretch(0, " + k + ", " + what + ")", desk.stretch(0, k, what), BAD);
                }
                for (int m : row(MIN, -1, 1, 3, 4, MAX)) {
                    due("stretch(" + m + ", 0, " + what + ")", desk.stretch(m, 0, what), BAD);
                }
            }
            for (int what : row(MIN, -1, 4, 5, MAX)) {
                due("stretch(0, 0, " + what + ")", desk.stretch(0, 0, what), BAD);
                due("stretch(0, 1, " + what + ")", desk.stretch(0, 1, what), BAD);
            }
            for (int m : row(MIN, -1, 1, 3, 4, MAX)) {
                due("stretches(" + m + ")", desk.stretches(m), BAD);
            }
        });
        due("reset(0)", desk.reset(0), OK);
        due("stretch(0, 0, 0) after a reset", desk.stretch(0, 0, 0), BAD);
        CoverageDesk full = deskWithForty();
        for (int k : row(MIN, -1, 40, 41, MAX)) {
            due("stretch(0, " + k + ", 1), 40 being there", full.stretch(0, k, 1), BAD);
        }
    }
}
