import java.util.Arrays;
import java.util.Random;

/** Puzzles with too many arrangements for the model to list. */
public final class LargePuzzleTest {
    private static final String[] M12 = Puzzles.M12;

    public static void main(String[] args) {
        ranksInOrder(95040, 1, 12, M12);
        ranksInOrder(7920, 1, 12, M12[0], M12[1]);
        ranksInOrder(46080, 1, 12, "(0 1)", "(0 2)(1 3)", "(0 2 4 6 8 10)(1 3 5 7 9 11)");
        ranksInOrder(82944, 1, 12, "(0 3 6 9)", "(0 3)", "(0 1)(3 4)(6 7)(9 10)", "(0 1 2)(3 4 5)(6 7 8)(9 10 11)");
        ranksInOrder(20160, 1, 8, "(0 1 2)", "(1 2 3 4 5 6 7)");
        ranksInOrder(1036800, 101, 12, "(11 10 9 8 7 6 5 4 3 2 1 0)", "(5 7)");
        ranksInOrder(479001600L, 99991, 12, "(11 10 9 8 7 6 5 4 3 2 1 0)", "(5 6)");
        ranksInOrder(239500800L, 99991, 12, "(9 10 11)", "(10 8 6 4 2 0 11 9 7 5 3)", "(0 1)(2 3)");
        manyRandomTurns();
        withinLikeTheModel();
        Expect.finish();
    }

    /** Each arrangement is behind the one before it, and has the rank that made it. */
    private static void ranksInOrder(long order, long step, int n, String... turns) {
        StickerFoundry x = Foundries.puzzle(n, turns);
        Expect.same("order", x.order(), order);
        int[] before = null;
        for (long r = 0; r < x.order(); r += step) {
            x.unrank(r);
            int[] row = row(x, n);
            Expect.yes("behind the one before", before == null || Arrays.compare(before, row) < 0);
            Expect.same("rank", x.rank(), r);
            before = row;
        }
    }

    private static int[] row(StickerFoundry x, int n) {
        int[] row = new int[n];
        for (int s = 0; s < n; s++) {
            row[s] = x.place(s);
        }
        return row;
    }

    /** Whatever moves make is reachable, and its rank makes it again. */
    private static void manyRandomTurns() {
        Random random = new Random(12);
        for (int run = 0; run < 300; run++) {
            StickerFoundry x = Foundries.puzzle(12);
            for (int t = 0; t < 5; t++) {
                shuffle(x, random, 1 + random.nextInt(12));
                x.write(StickerFoundry.NONE);
                x.turn();
            }
            x.reset();
            for (int i = 0; i < 50; i++) {
                x.move(random.nextInt(10));
                Expect.yes("reachable", x.reachable());
                String places = Foundries.places(x, 12);
                long rank = x.rank();
                x.reset();
                x.unrank(rank);
                Expect.same("made again", Foundries.places(x, 12), places);
            }
        }
    }

    private static void shuffle(StickerFoundry x, Random random, int swaps) {
        x.reset();
        for (int i = 0; i < swaps; i++) {
            x.swap(random.nextInt(12), random.nextInt(12));
        }
    }

    private static void withinLikeTheModel() {
        Random random = new Random(23);
        for (int run = 0; run < 40; run++) {
            StickerFoundry x = Foundries.puzzle(12);
            Model y = new Model();
            y.stickers(12);
            for (int t = 0; t < 1 + run % 5; t++) {
                shuffle(x, random, 1 + random.nextInt(12));
                x.write(StickerFoundry.NONE);
                y.text = Foundries.text(x);
                Expect.same("turn", x.turn(), y.turn());
            }
            x.reset();
            for (int i = 0; i < 8; i++) {
                for (int limit = 0; limit <= 4; limit++) {
                    Expect.same("within(" + limit + ")", x.within(limit), y.within(limit));
                }
                int move = random.nextInt(2 * x.turns());
                x.move(move);
                y.move(move);
            }
        }
    }
}
