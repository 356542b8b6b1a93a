import java.util.NoSuchElementException;
import java.util.function.BiConsumer;

/** Order, orbits, ranks and classes: each sentence of the document that names a boundary case of them. */
public final class OrderEdgeTest {
    public static void main(String[] args) {
        orderOfNone();
        orderOfAll();
        orbitFixingNoneAndAll();
        orbitNumbers();
        inOrbitOfItself();
        inOrbitNumbers();
        reachableByNoMoves();
        reachableNotAfterSwap();
        rankFirstAndLast();
        rankNotReachable();
        unrankFirstAndLast();
        unrankOutside();
        blockOfOnePlace();
        blockOfTheLeast();
        blockOfAllInOne();
        blockOutsideTheOrbit();
        blockNumbers();
        Expect.finish();
    }

    private static long factorial(int n) {
        return n <= 1 ? 1 : n * factorial(n - 1);
    }

    private static void refusesIndex(String name, Runnable call) {
        Expect.raises(name, IndexOutOfBoundsException.class, call);
    }

    /** A call of two numbers takes each pair below n; it refuses a number that is not, as one or as both. */
    private static void refusesOutside(int n, BiConsumer<Integer, Integer> call) {
        for (int good : new int[] {0, n - 1}) {
            Expect.same(good + " twice", Expect.raisedBy(() -> call.accept(good, good)), "nothing");
            for (int bad : new int[] {-1, n, n + 1, 12, Puzzles.LEAST, Puzzles.MOST}) {
                refusesIndex(n + " stickers, " + bad + " and " + good, () -> call.accept(bad, good));
                refusesIndex(n + " stickers, " + good + " and " + bad, () -> call.accept(good, bad));
                refusesIndex(n + " stickers, " + bad + " twice", () -> call.accept(bad, bad));
            }
        }
    }

    private static void orderOfNone() {
        Expect.about("Promise 12: How many arrangements are reachable (any number of moves, none too)");
        for (int n = 1; n <= 12; n++) {
            Expect.same("no turns", Foundries.puzzle(n).order(), 1);
            Expect.same("turns that take nothing", Foundries.puzzle(n, "", "(0)", " ").order(), 1);
        }
    }

    private static void orderOfAll() {
        Expect.about("Promise 12: How many arrangements are reachable (all)");
        for (int n = 1; n <= 12; n++) {
            Expect.same(n + " stickers", Puzzles.all(n).order(), factorial(n));
        }
        StickerFoundry x = Puzzles.all12();
        Foundries.addTurn(x, "(3 5)(2 7 11)");
        Foundries.addTurn(x, "");
        Foundries.addTurn(x, "(11 0)");
        Expect.same("five turns", x.order(), 479001600L);
    }

    private static void orbitFixingNoneAndAll() {
        Expect.about("THE ORBIT of a sticker p, FIXING k");
        for (int n = 1; n <= 12; n++) {
            StickerFoundry all = Puzzles.all(n);
            StickerFoundry none = Foundries.puzzle(n);
            StickerFoundry ring = Foundries.puzzle(n, Puzzles.ring(n));
            for (int k = 0; k < n; k++) {
                Expect.same("all: orbit(" + k + ")", all.orbit(k), n - k);
                Expect.same("none: orbit(" + k + ")", none.orbit(k), 1);
                Expect.same("ring: orbit(" + k + ")", ring.orbit(k), k == 0 ? n : 1);
            }
        }
    }

    private static void orbitNumbers() {
        Expect.about("Promise 13, Terms: Numbers of stickers that there are not are refused");
        for (int n = 1; n <= 12; n++) {
            StickerFoundry x = Puzzles.all(n);
            for (int bad : new int[] {-1, n, n + 1, 12, Puzzles.LEAST, Puzzles.MOST}) {
                refusesIndex(n + " stickers, orbit(" + bad + ")", () -> x.orbit(bad));
            }
        }
    }

    private static void inOrbitOfItself() {
        Expect.about("Promise 14: Whether place p is in the ORBIT of sticker k, FIXING k");
        for (int n = 1; n <= 12; n++) {
            StickerFoundry all = Puzzles.all(n);
            StickerFoundry none = Foundries.puzzle(n);
            for (int k = 0; k < n; k++) {
                for (int p = 0; p < n; p++) {
                    Expect.same(k + " at " + p + " of all", all.inOrbit(k, p) ? 1 : 0, p >= k ? 1 : 0);
                    Expect.same(k + " at " + p + " of none", none.inOrbit(k, p) ? 1 : 0, p == k ? 1 : 0);
                }
            }
        }
    }

    private static void inOrbitNumbers() {
        Expect.about("Promise 14, Terms: Numbers of stickers and places that there are not are refused");
        for (int n = 1; n <= 12; n++) {
            StickerFoundry x = Puzzles.all(n);
            refusesOutside(n, (k, p) -> x.inOrbit(k, p));
        }
    }

    private static void reachableByNoMoves() {
        Expect.about("Terms: REACHABLE, if moves (any number) lead from the solved one to it");
        for (int n = 1; n <= 12; n++) {
            StickerFoundry x = Foundries.puzzle(n);
            Expect.yes("solved, without turns", x.reachable());
            for (int p = 1; p < n; p++) {
                x.reset();
                x.swap(p - 1, p);
                Expect.no("another, without turns", x.reachable());
            }
        }
    }

    private static void reachableNotAfterSwap() {
        Expect.about("Promise 15: Whether the arrangement is reachable");
        StickerFoundry x = Foundries.puzzle(12, "(0 1 2)", "(1 2 3 4 5 6 7 8 9 10 11)");
        for (int p = 0; p < 12; p++) {
            for (int q = 0; q < 12; q++) {
                x.reset();
                x.swap(p, q);
                Expect.same("A12, " + p + " and " + q, x.reachable() ? 1 : 0, p == q ? 1 : 0);
            }
        }
        x.reset();
        x.swap(10, 11);
        Foundries.addTurn(x, "(0 11)");
        Expect.yes("with one turn more", x.reachable());
        x.stickers(12);
        x.swap(10, 11);
        Expect.no("in a new puzzle", x.reachable());
    }

    private static void rankFirstAndLast() {
        Expect.about("Terms: Their RANKS are 0, 1, .. in this order");
        for (int n = 1; n <= 12; n++) {
            Expect.same("without turns", Foundries.puzzle(n).rank(), 0);
            StickerFoundry x = Puzzles.all(n);
            Expect.same("the first", x.rank(), 0);
            for (int p = 0; p < n / 2; p++) {
                x.swap(p, n - 1 - p);
            }
            Expect.same("the last", x.rank(), factorial(n) - 1);
        }
        StickerFoundry ring = Foundries.puzzle(12, Puzzles.ring(12));
        ring.move(1);
        Expect.same("the last of a ring", ring.rank(), 11);
        ring.move(0);
        Expect.same("round to the first", ring.rank(), 0);
    }

    private static void rankNotReachable() {
        Expect.about("Promise 16: IllegalStateException when it is not reachable");
        StickerFoundry x = Foundries.puzzle(12);
        for (int p = 1; p < 12; p++) {
            x.reset();
            x.swap(p - 1, p);
            Expect.raises("without turns", IllegalStateException.class, x::rank);
        }
        StickerFoundry m12 = Foundries.puzzle(12, Puzzles.M12);
        m12.unrank(95039);
        m12.swap(10, 11);
        Expect.raises("in the last two places alone", IllegalStateException.class, m12::rank);
        m12.swap(11, 10);
        Expect.same("and back", m12.rank(), 95039);
    }

    private static void unrankFirstAndLast() {
        Expect.about("Promise 17: The arrangement becomes the one with a rank");
        for (int n = 1; n <= 12; n++) {
            StickerFoundry x = Puzzles.all(n);
            StringBuilder first = new StringBuilder();
            StringBuilder last = new StringBuilder();
            for (int s = 0; s < n; s++) {
                first.append(s).append(' ');
                last.append(n - 1 - s).append(' ');
            }
            x.unrank(factorial(n) - 1);
            Expect.same("the last", Foundries.places(x, n), last.toString());
            x.unrank(0);
            Expect.same("the first", Foundries.places(x, n), first.toString());
        }
    }

    private static void unrankOutside() {
        Expect.about("Promise 17: NoSuchElementException when there is none (also below 0)");
        for (int n = 1; n <= 12; n++) {
            StickerFoundry x = Puzzles.all(n);
            long last = factorial(n) - 1;
            x.unrank(last);
            String places = Foundries.places(x, n);
            long[] outside = {-1, -2, last + 1, last + 2, 1L << 32, -1L << 32, Long.MIN_VALUE, Long.MAX_VALUE};
            for (long bad : outside) {
                Expect.raises("unrank(" + bad + ")", NoSuchElementException.class, () -> x.unrank(bad));
                Expect.same("as before", Foundries.places(x, n), places);
            }
        }
        StickerFoundry none = Foundries.puzzle(12);
        none.unrank(0);
        Expect.raises("without turns", NoSuchElementException.class, () -> none.unrank(1));
    }

    private static void blocks(StickerFoundry x, int j, int... due) {
        for (int s = 0; s < due.length; s++) {
            Expect.same("block(" + j + ", " + s + ")", x.block(j, s), due[s]);
        }
    }

    private static void blockOfOnePlace() {
        Expect.about("CLASSES: an orbit of one place");
        for (int n = 1; n <= 12; n++) {
            StickerFoundry x = Foundries.puzzle(n);
            for (int j = 0; j < n; j++) {
                for (int s = 0; s < n; s++) {
                    Expect.same("block(" + j + ", " + s + ")", x.block(j, s), j == s ? j : StickerFoundry.NONE);
                }
            }
        }
    }

    private static void blockOfTheLeast() {
        Expect.about("CLASSES: j and l are in one class (j is l): as small as can be");
        blocks(Puzzles.all12(), 0, 0, 1, 2, 3, 4, 5, 6, 7, 8, 9, 10, 11);
        StickerFoundry x = Foundries.puzzle(12, "(2 6 10)(3 7 11)", "(0 1)");
        blocks(x, 2, -1, -1, 2, -1, -1, -1, 6, -1, -1, -1, 10, -1);
        blocks(x, 3, -1, -1, -1, 3, -1, -1, -1, 7, -1, -1, -1, 11);
        blocks(x, 0, 0, 1, -1, -1, -1, -1, -1, -1, -1, -1, -1, -1);
    }

    private static void blockOfAllInOne() {
        Expect.about("CLASSES: the whole orbit in one class");
        for (int j = 1; j < 12; j++) {
            blocks(Puzzles.all12(), j, 0, 0, 0, 0, 0, 0, 0, 0, 0, 0, 0, 0);
            blocks(Foundries.puzzle(12, "(11 1 2 3 4 5 6 7 8 9 10)"), j, j == 1
                ? new int[] {-1, 1, 2, 3, 4, 5, 6, 7, 8, 9, 10, 11} : new int[] {-1, 1, 1, 1, 1, 1, 1, 1, 1, 1, 1, 1});
        }
        blocks(Foundries.puzzle(2, "(0 1)"), 1, 0, 0);
    }

    private static void blockOutsideTheOrbit() {
        Expect.about("Promise 18: NONE when s is not in the orbit of j");
        StickerFoundry x = Foundries.puzzle(12, "(0 11)(1 10)", "(1 2)");
        blocks(x, 11, 0, -1, -1, -1, -1, -1, -1, -1, -1, -1, -1, 0);
        blocks(x, 10, -1, 1, 1, -1, -1, -1, -1, -1, -1, -1, 1, -1);
        blocks(x, 5, -1, -1, -1, -1, -1, 5, -1, -1, -1, -1, -1, -1);
        Foundries.addTurn(x, "(0 5)");
        blocks(x, 5, 0, -1, -1, -1, -1, 0, -1, -1, -1, -1, -1, 0);
    }

    private static void blockNumbers() {
        Expect.about("Promise 18, Terms: Numbers of stickers that there are not are refused");
        for (int n = 1; n <= 12; n++) {
            StickerFoundry x = Puzzles.all(n);
            refusesOutside(n, (j, s) -> x.block(j, s));
        }
    }
}
