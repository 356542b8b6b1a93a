/** Distances and solutions: each sentence of the document that names a boundary case of them. */
public final class DistanceEdgeTest {
    private static final int NONE = StickerFoundry.NONE;
    private static final int[] FAR = {-1, -2, Puzzles.LEAST, Puzzles.MOST};

    public static void main(String[] args) {
        distanceOfOne();
        upTo1500();
        moreThan1500();
        fewerAndMoreInTurn();
        atDistanceThatThereIsNot();
        atDistanceOfAll();
        solveSolved();
        solveFarthest();
        solveNotReachable();
        solveNamesFirst();
        solveTheLesserMove();
        solutionBeforeAny();
        solutionBeyond();
        solutionTillTheNext();
        withinLimits();
        withinEachDistance();
        withinByEachMove();
        withinNotReachable();
        withinWithoutTurns();
        Expect.finish();
    }

    private static void refuses(String name, Runnable call) {
        Expect.raises(name, UnsupportedOperationException.class, call);
    }

    private static void distanceOfOne() {
        Expect.about("Promise 19: The greatest DISTANCE that there is");
        for (int n = 1; n <= 12; n++) {
            Expect.same("no turns", Foundries.puzzle(n).diameter(), 0);
            Expect.same("turns that take nothing", Foundries.puzzle(n, "", "(0)").diameter(), 0);
            Expect.same("a ring", Foundries.puzzle(n, Puzzles.ring(n)).diameter(), n / 2);
        }
    }

    private static void upTo1500() {
        Expect.about("Promise 19: UnsupportedOperationException when more than 1500 are reachable (1440 are not)");
        StickerFoundry x = Puzzles.mostThatIsTold();
        Expect.same("order", x.order(), 1440);
        Expect.same("diameter", x.diameter(), 16);
        Expect.same("atDistance(0)", x.atDistance(0), 1);
        Expect.same("solve", x.solve(), 0);
        x.unrank(1439);
        Expect.yes("the last is solved too", x.solve() > 0);
    }

    private static void moreThan1500() {
        Expect.about("Promises 19 to 21: UnsupportedOperationException when more than 1500 are reachable (1512 are)");
        StickerFoundry[] large = {Puzzles.leastThatIsNot(), Foundries.puzzle(12, Puzzles.M12), Puzzles.all12()};
        Expect.same("order", large[0].order(), 1512);
        for (StickerFoundry x : large) {
            refuses("diameter", x::diameter);
            for (int d : new int[] {0, 1, 16, -1, Puzzles.LEAST, Puzzles.MOST}) {
                refuses("atDistance(" + d + ")", () -> x.atDistance(d));
            }
            refuses("solve", x::solve);
            Expect.same("within is of any puzzle", x.within(0), 0);
        }
    }

    private static void fewerAndMoreInTurn() {
        Expect.about("Promises 19 to 21: as many as are reachable now");
        StickerFoundry x = Foundries.puzzle(7, "(0 1 2 3 4 5 6)");
        Expect.same("a ring", x.diameter(), 3);
        Foundries.addTurn(x, "(0 1)");
        refuses("5040", x::diameter);
        Expect.same("within(4)", x.within(4), 0);
        x.stickers(6);
        Expect.same("a new puzzle", x.diameter(), 0);
        Foundries.addTurn(x, "(0 1 2 3 4 5)");
        Expect.same("a turn", x.diameter(), 3);
        Foundries.addTurn(x, "(0 1)");
        Expect.same("and one more", x.diameter(), 15);
        Expect.same("how many at 1", x.atDistance(1), 3);
    }

    private static void atDistanceThatThereIsNot() {
        Expect.about("Promise 20: How many reachable arrangements have a DISTANCE of d");
        StickerFoundry x = Foundries.puzzle(12, "(0 1 2)(3 4 5 6)(7 8 9 10 11)");
        for (int d = 0; d <= 40; d++) {
            Expect.same("atDistance(" + d + ")", x.atDistance(d), d > 30 ? 0 : d == 0 || d == 30 ? 1 : 2);
        }
        for (int d : FAR) {
            Expect.same("atDistance(" + d + ")", x.atDistance(d), 0);
            Expect.same("without turns", Foundries.puzzle(3).atDistance(d), 0);
        }
        Expect.same("solved", Foundries.puzzle(3).atDistance(0), 1);
        Expect.same("no others", Foundries.puzzle(3).atDistance(1), 0);
    }

    private static void atDistanceOfAll() {
        Expect.about("Promise 20: at the greatest distance there is one, behind it none");
        StickerFoundry x = Puzzles.mostThatIsTold();
        int sum = 0;
        for (int d = 0; d <= 16; d++) {
            Expect.yes("some at " + d, x.atDistance(d) > 0);
            sum += x.atDistance(d);
        }
        Expect.same("all", sum, 1440);
        Expect.same("none behind", x.atDistance(17), 0);
    }

    private static void solveSolved() {
        Expect.about("Promise 21: the DISTANCE of the solved one");
        StickerFoundry x = Foundries.puzzle(3, "(0 1 2)");
        x.move(0);
        Expect.same("solve", x.solve(), 1);
        x.reset();
        Expect.same("solve", x.solve(), 0);
        Expect.same("solution(0)", x.solution(0), NONE);
        Expect.same("without turns", Foundries.puzzle(12).solve(), 0);
        Expect.same("a new object", new StickerFoundry().solve(), 0);
    }

    private static void solveFarthest() {
        Expect.about("Promise 21: the DISTANCE of the farthest");
        StickerFoundry x = Foundries.puzzle(12, "(0 1)(3 4)(5 6)(7 8)(9 10)", "(1 2)(4 5)(8 9)(10 11)");
        Expect.same("diameter", x.diameter(), 60);
        for (int i = 0; i < 30; i++) {
            x.move(0);
            x.move(2);
        }
        Expect.same("solve", x.solve(), 60);
        for (int i = 0; i < 60; i++) {
            Expect.same("solution(" + i + ")", x.solution(i), i % 2 == 0 ? 0 : 2);
        }
        Expect.same("solution(60)", x.solution(60), NONE);
    }

    private static void solveNotReachable() {
        Expect.about("Promise 21: IllegalStateException when it is not reachable");
        StickerFoundry x = Foundries.puzzle(4, "(0 1 2 3)");
        x.move(1);
        x.solve();
        x.swap(0, 1);
        Expect.raises("solve", IllegalStateException.class, x::solve);
        Expect.same("the solution stays", Foundries.solution(x), "0 ");
        x.swap(1, 0);
        Expect.same("reachable again", x.solve(), 1);
        StickerFoundry none = Foundries.puzzle(2);
        none.swap(0, 1);
        Expect.raises("without turns", IllegalStateException.class, none::solve);
    }

    private static void solveNamesFirst() {
        Expect.about("Terms: where several exceptions that a call names fit, it is the one that it names first");
        StickerFoundry x = Puzzles.leastThatIsNot();
        x.swap(0, 1);
        Expect.no("reachable", x.reachable());
        refuses("solve", x::solve);
        StickerFoundry few = Puzzles.mostThatIsTold();
        few.swap(5, 6);
        Expect.no("reachable", few.reachable());
        Expect.raises("solve", IllegalStateException.class, few::solve);
    }

    private static void solveTheLesserMove() {
        Expect.about("Promise 21: that which has the lesser move where two differ first");
        StickerFoundry x = Foundries.puzzle(3, "(0 2 1)", "(0 1 2)", "(0 1 2)", "(0 1 2)", "(0 2 1)");
        x.move(0);
        Expect.same("solve", x.solve(), 1);
        Expect.same("1, 2, 4, 6 and 9 do it", Foundries.solution(x), "1 ");
        x.move(0);
        Expect.same("solve", x.solve(), 1);
        Expect.same("0, 3, 5, 7 and 8 do it", Foundries.solution(x), "0 ");
        StickerFoundry pairs = Foundries.puzzle(10, "(8 9)", "(6 7)", "(4 5)", "(2 3)", "(0 1)");
        pairs.unrank(pairs.order() - 1);
        Expect.same("solve", pairs.solve(), 5);
        Expect.same("of all rows the first", Foundries.solution(pairs), "0 2 4 6 8 ");
    }

    private static void solutionBeforeAny() {
        Expect.about("Promise 22: NONE when there is none such (none has been found)");
        StickerFoundry x = Foundries.puzzle(3, "(0 1 2)");
        x.move(0);
        x.within(4);
        x.diameter();
        for (int i : new int[] {0, 1, -1, 1499, 1500, Puzzles.LEAST, Puzzles.MOST}) {
            Expect.same("solution(" + i + ")", x.solution(i), NONE);
        }
    }

    private static void solutionBeyond() {
        Expect.about("Promise 22: NONE when there is none such");
        StickerFoundry x = Foundries.puzzle(12, Puzzles.ring(12));
        for (int far = 0; far <= 6; far++) {
            Expect.same("solve", x.solve(), far);
            for (int i = -2; i <= 14; i++) {
                int due = i < 0 || i >= far ? NONE : far == 6 ? 0 : 1;
                Expect.same(far + ": solution(" + i + ")", x.solution(i), due);
            }
            for (int i : FAR) {
                Expect.same(far + ": solution(" + i + ")", x.solution(i), NONE);
            }
            x.move(0);
        }
    }

    private static void solutionTillTheNext() {
        Expect.about("Promises 21, 22: till the next that does not throw (the puzzle may be another one now)");
        StickerFoundry x = Foundries.puzzle(12, Puzzles.ring(12));
        x.unrank(3);
        x.solve();
        x.reset();
        Expect.same("behind reset", Foundries.solution(x), "1 1 1 ");
        x.swap(0, 1);
        Expect.raises("solve", IllegalStateException.class, x::solve);
        Expect.same("behind one that throws", Foundries.solution(x), "1 1 1 ");
        Foundries.addTurn(x, "(0 1)");
        refuses("solve", x::solve);
        Expect.same("behind another that throws", Foundries.solution(x), "1 1 1 ");
        x.stickers(1);
        Expect.same("of a puzzle without such moves", Foundries.solution(x), "1 1 1 ");
        Expect.same("solve", x.solve(), 0);
        Expect.same("behind one that finds no moves", Foundries.solution(x), "");
    }

    private static void withinLimits() {
        Expect.about("Promise 23: IllegalArgumentException when limit is not 0 .. 4");
        for (StickerFoundry x : new StickerFoundry[] {new StickerFoundry(), Puzzles.mostThatIsTold(), Puzzles.all12()}) {
            for (int limit = -20; limit <= 20; limit++) {
                int asked = limit;
                String due = limit < 0 || limit > 4 ? "IllegalArgumentException" : "nothing";
                Expect.same("within(" + limit + ")", Expect.raisedBy(() -> x.within(asked)), due);
            }
            for (int limit : FAR) {
                Expect.raises("within(" + limit + ")", IllegalArgumentException.class, () -> x.within(limit));
            }
        }
    }

    /** From solved a ring goes one place on with each move; the others make it a large puzzle. */
    private static void withinEachDistance() {
        Expect.about("Promise 23: if that is at most limit; NONE if not. (Of any puzzle.)");
        StickerFoundry[] puzzles = {Foundries.puzzle(12, Puzzles.ring(12)), Puzzles.all12(),
            Foundries.puzzle(12, Puzzles.S12[0], "(0 1)", "(3 4)", "(6 7)", "(9 10)")};
        for (StickerFoundry x : puzzles) {
            for (int far = 0; far <= 6; far++) {
                for (int limit = 0; limit <= 4; limit++) {
                    Expect.same(far + " within(" + limit + ")", x.within(limit), far <= limit ? far : NONE);
                }
                x.move(0);
            }
        }
    }

    /** Rows of four moves, by turn of two kinds, are as far as the model says: mostly four. */
    private static void withinByEachMove() {
        Expect.about("Promise 23: The least number of moves that lead from the arrangement to the solved one");
        String[] turns = {"(0 1 2 3 4 5 6 7 8 9 10)", "(11 9 7 5 3 1)(10 8 6)", "(2 4 8 5 10 9 7 3 6)", "(0 11)(1 6 2)",
            "(3 0 4 1 5 9 2 6)"};
        StickerFoundry x = Foundries.puzzle(12, turns);
        Model model = new Model();
        model.stickers(12);
        for (String turn : turns) {
            model.text = turn;
            model.turn();
        }
        for (int row = 0; row < 100; row++) {
            x.reset();
            model.reset();
            for (int i = 0; i < 4; i++) {
                int move = i % 2 == 0 ? row / 10 : row % 10;
                x.move(move);
                model.move(move);
                Expect.same("row " + row + ", within(" + i + ")", x.within(i), model.within(i));
            }
            Expect.same("row " + row + ", within(4)", x.within(4), model.within(4));
        }
    }

    private static void withinNotReachable() {
        Expect.about("Promise 23: NONE if not (no moves lead to it)");
        StickerFoundry few = Puzzles.mostThatIsTold();
        few.swap(5, 6);
        StickerFoundry many = Foundries.puzzle(12, "(0 1 2)", "(1 2 3 4 5 6 7 8 9 10 11)");
        many.swap(10, 11);
        for (int limit = 0; limit <= 4; limit++) {
            Expect.same("few, within(" + limit + ")", few.within(limit), NONE);
            Expect.same("many, within(" + limit + ")", many.within(limit), NONE);
        }
    }

    private static void withinWithoutTurns() {
        Expect.about("Promise 23: The least number of moves, without turns");
        for (int n = 2; n <= 12; n++) {
            StickerFoundry x = Foundries.puzzle(n);
            Expect.same("solved, within(0)", x.within(0), 0);
            Expect.same("solved, within(4)", x.within(4), 0);
            x.swap(0, n - 1);
            Expect.same("not solved, within(0)", x.within(0), NONE);
            Expect.same("not solved, within(4)", x.within(4), NONE);
        }
    }
}
