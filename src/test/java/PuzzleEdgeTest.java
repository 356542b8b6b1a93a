import java.util.function.IntConsumer;

/** Stickers, turns and the arrangement: each sentence of the document that names a boundary case of them. */
public final class PuzzleEdgeTest {
    public static void main(String[] args) {
        newPuzzle();
        stickersOneToTwelve();
        stickersOutside();
        stickersBegin();
        stickersKeepTextAndSolution();
        turnsNoneToFive();
        imageNumbers();
        moveNumbers();
        moveBackwards();
        swapNumbers();
        swapOnePlace();
        swapWhatTurnsCannot();
        resetFromAny();
        placeNumbers();
        lastOf512Calls();
        Expect.finish();
    }

    /** What a call takes: the numbers 0 .. count - 1; it refuses all others. */
    private static void takesBelow(int count, String name, IntConsumer call) {
        for (int i = 0; i < count; i++) {
            int good = i;
            Expect.same(name + " " + good, Expect.raisedBy(() -> call.accept(good)), "nothing");
        }
        for (int bad : new int[] {-1, -2, -12, count, count + 1, 12, 16, Puzzles.LEAST, Puzzles.MOST}) {
            if (bad < 0 || bad >= count) {
                Expect.raises(name + " " + bad, IndexOutOfBoundsException.class, () -> call.accept(bad));
            }
        }
    }

    private static void newPuzzle() {
        Expect.about("Promise 1: One sticker, no turns, an empty text");
        String due = Seen.all(Foundries.puzzle(1));
        Expect.same("seen", Seen.all(new StickerFoundry()), due);
        Expect.same("stickers", Seen.stickers(new StickerFoundry()), 1);
        Expect.same("turns", new StickerFoundry().turns(), 0);
        Expect.same("solved", new StickerFoundry().place(0), 0);
        Expect.same("no solution", new StickerFoundry().solution(0), StickerFoundry.NONE);
    }

    private static void stickersOneToTwelve() {
        Expect.about("Promise 2: A new puzzle with n stickers (n is 1 .. 12)");
        for (int n = 1; n <= 12; n++) {
            StickerFoundry x = new StickerFoundry();
            Expect.yes("stickers(" + n + ")", x.stickers(n));
            Expect.same("stickers", Seen.stickers(x), n);
        }
    }

    private static void stickersOutside() {
        Expect.about("Promise 2: False, changing nothing, when n is not 1 .. 12");
        for (int n = -300; n <= 300; n++) {
            StickerFoundry x = Foundries.puzzle(5, "(0 1 2)");
            boolean due = n >= 1 && n <= 12;
            Expect.same("stickers(" + n + ")", x.stickers(n) ? 1 : 0, due ? 1 : 0);
            Expect.same("stickers", Seen.stickers(x), due ? n : 5);
            Expect.same("turns", x.turns(), due ? 0 : 1);
        }
        for (int n : new int[] {Puzzles.LEAST, Puzzles.MOST, 1 << 16 | 5, 257}) {
            Expect.no("stickers(" + n + ")", new StickerFoundry().stickers(n));
        }
    }

    private static void stickersBegin() {
        Expect.about("Promise 2: without turns, solved");
        for (int before = 1; before <= 12; before++) {
            for (int n = 1; n <= 12; n++) {
                StickerFoundry x = Puzzles.all(before);
                x.unrank(x.order() - 1);
                x.within(1);
                x.cut(0);
                x.stickers(n);
                Expect.same(before + ", then " + n, Seen.all(x), Seen.all(Foundries.puzzle(n)));
            }
        }
    }

    private static void stickersKeepTextAndSolution() {
        Expect.about("Promise 2: the text and the solution found last stay");
        StickerFoundry x = Foundries.puzzle(5, "(0 1 2 3 4)");
        x.unrank(2);
        x.solve();
        Foundries.setText(x, "~".repeat(48));
        for (int n : new int[] {12, 1, 5, 0, 13}) {
            x.stickers(n);
            Expect.same("text", Foundries.text(x), "~".repeat(48));
            Expect.same("solution", Foundries.solution(x), "1 1 ");
        }
    }

    private static void turnsNoneToFive() {
        Expect.about("Promise 6: How many turns there are (at most five)");
        StickerFoundry x = Foundries.puzzle(2);
        for (int t = 0; t < 5; t++) {
            Expect.same("turns", x.turns(), t);
            Foundries.addTurn(x, "(0 1)");
        }
        Expect.same("turns", x.turns(), 5);
        Expect.raises("a sixth", UnsupportedOperationException.class, x::turn);
        Expect.same("turns", x.turns(), 5);
        x.stickers(2);
        Expect.same("turns of a new puzzle", x.turns(), 0);
    }

    private static void imageNumbers() {
        Expect.about("Promise 7, Terms: Numbers of places and turns that there are not are refused");
        for (int turns = 0; turns <= 5; turns++) {
            for (int n = 1; n <= 12; n++) {
                imageNumbersOf(n, turns);
            }
        }
        StickerFoundry x = Foundries.puzzle(12, "(0 11)", "(10 11)");
        Expect.same("the first of all", x.image(0, 0), 11);
        Expect.same("the last of all", x.image(1, 11), 10);
        Expect.same("one that stays", x.image(1, 0), 0);
    }

    private static void imageNumbersOf(int n, int turns) {
        StickerFoundry x = Foundries.puzzle(n);
        for (int t = 0; t < turns; t++) {
            Foundries.addTurn(x, Puzzles.ring(n));
        }
        int places = turns == 0 ? 0 : n;
        takesBelow(turns, n + " stickers, image of turn", t -> x.image(t, 0));
        takesBelow(places, turns + " turns, image of place", p -> x.image(0, p));
        takesBelow(places, turns + " turns, last image of place", p -> x.image(turns - 1, p));
        Expect.raises("both", IndexOutOfBoundsException.class, () -> x.image(turns, n));
    }

    private static void moveNumbers() {
        Expect.about("Promise 8, Terms: Numbers of moves that there are not are refused");
        for (int turns = 0; turns <= 5; turns++) {
            StickerFoundry x = Foundries.puzzle(2);
            for (int t = 0; t < turns; t++) {
                Foundries.addTurn(x, "(0 1)");
            }
            takesBelow(2 * turns, turns + " turns, move", x::move);
        }
        StickerFoundry x = Foundries.puzzle(2, "(0 1)");
        x.stickers(2);
        takesBelow(0, "in a new puzzle, move", x::move);
    }

    private static void moveBackwards() {
        Expect.about("Terms: A MOVE is 2 * t, to make turn t, or 2 * t + 1, to make it backwards");
        String[] turns = {"(0 1 2)", "(3 4 5)", "(6 7 8)", "(9 10 11)", "(2 11 5)"};
        String[] made = {"(0 1 2)", "(0 2 1)", "(3 4 5)", "(3 5 4)", "(6 7 8)", "(6 8 7)", "(9 10 11)", "(9 11 10)",
            "(2 11 5)", "(2 5 11)"};
        for (int move = 0; move < 10; move++) {
            StickerFoundry x = Foundries.puzzle(12, turns);
            x.move(move);
            x.write(StickerFoundry.NONE);
            Expect.same("move(" + move + ")", Foundries.text(x), made[move]);
            x.move(move ^ 1);
            Expect.same("and back", x.write(StickerFoundry.NONE), 0);
        }
    }

    private static void swapNumbers() {
        Expect.about("Promise 9, Terms: Numbers of places that there are not are refused");
        for (int n = 1; n <= 12; n++) {
            StickerFoundry x = Foundries.puzzle(n);
            takesBelow(n, n + " stickers, swap with 0", p -> x.swap(p, 0));
            int beyond = n;
            takesBelow(n, n + " stickers, swap of the last", p -> x.swap(beyond - 1, p));
            Expect.raises("both", IndexOutOfBoundsException.class, () -> x.swap(beyond, beyond));
            Expect.raises("both", IndexOutOfBoundsException.class, () -> x.swap(-1, -1));
        }
    }

    private static void swapOnePlace() {
        Expect.about("Promise 9: two places (which may be one)");
        StickerFoundry x = Puzzles.all12();
        x.unrank(123456789);
        String places = Foundries.places(x, 12);
        for (int p = 0; p < 12; p++) {
            x.swap(p, p);
            Expect.same("swap(" + p + ", " + p + ")", Foundries.places(x, 12), places);
        }
        StickerFoundry one = new StickerFoundry();
        one.swap(0, 0);
        Expect.same("of one sticker", one.place(0), 0);
    }

    private static void swapWhatTurnsCannot() {
        Expect.about("Promise 9: change places. (Whether turns can do that or not.)");
        StickerFoundry x = Foundries.puzzle(12);
        x.swap(0, 11);
        Expect.same("without turns", Foundries.places(x, 12), "11 1 2 3 4 5 6 7 8 9 10 0 ");
        x.swap(11, 5);
        Expect.same("what is at the places, not of the names", Foundries.places(x, 12), "5 1 2 3 4 11 6 7 8 9 10 0 ");
        Expect.no("reachable", x.reachable());
    }

    private static void resetFromAny() {
        Expect.about("Promise 10: The arrangement is solved");
        for (int n = 1; n <= 12; n++) {
            StickerFoundry x = Puzzles.all(n);
            String before = Seen.all(x);
            x.reset();
            Expect.same("solved before", Seen.all(x), before);
            x.unrank(x.order() - 1);
            x.reset();
            Expect.same("the last before", Seen.all(x), before);
        }
        StickerFoundry x = Foundries.puzzle(3);
        x.swap(0, 2);
        x.reset();
        Expect.same("not reachable before", Foundries.places(x, 3), "0 1 2 ");
    }

    private static void placeNumbers() {
        Expect.about("Promise 11, Terms: Numbers of stickers that there are not are refused");
        for (int n = 1; n <= 12; n++) {
            StickerFoundry x = Foundries.puzzle(n);
            takesBelow(n, n + " stickers, place", x::place);
            x.swap(0, n - 1);
            Expect.same("the first", x.place(0), n - 1);
            Expect.same("the last", x.place(n - 1), 0);
        }
        StickerFoundry x = Foundries.puzzle(12);
        x.stickers(4);
        takesBelow(4, "of fewer stickers, place", x::place);
    }

    private static void lastOf512Calls() {
        Expect.about("What it is: An object is used for at most 512 calls after it has been made");
        StickerFoundry x = new StickerFoundry();
        x.stickers(12);
        int calls = 1;
        for (String part : new String[] {"(0 1 2 3", " 4 5 6 7", " 8 9 10 ", "11)"}) {
            x.type(Foundries.packed(part), part.length());
            calls++;
        }
        x.turn();
        int moves = 0;
        for (calls++; calls < 511; calls++) {
            x.move(0);
            moves++;
        }
        Expect.same("the 512th", x.place(0), moves % 12);
    }
}
