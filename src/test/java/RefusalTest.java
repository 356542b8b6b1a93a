import java.util.NoSuchElementException;
import java.util.function.Consumer;
import java.util.function.Predicate;
import java.util.function.Supplier;

/** A call that throws, or that answers false, changes nothing: all that can be seen is as before. */
public final class RefusalTest {
    private static final Class<?> BAD_INDEX = IndexOutOfBoundsException.class;
    private static final Class<?> BAD_ARGUMENT = IllegalArgumentException.class;
    private static final Class<?> BAD_STATE = IllegalStateException.class;
    private static final Class<?> TOO_MANY = UnsupportedOperationException.class;
    private static final String FULL = "(0 1) as a text that is full: 48 characters ....";

    private final String name;
    private final Supplier<StickerFoundry> maker;
    private final int stickers;
    private final int turns;
    private final int length;
    private final long order;

    private RefusalTest(String name, Supplier<StickerFoundry> maker) {
        this.name = name;
        this.maker = maker;
        StickerFoundry x = maker.get();
        this.stickers = Seen.stickers(x);
        this.turns = x.turns();
        this.length = Foundries.text(x).length();
        this.order = x.order();
    }

    public static void main(String[] args) {
        Expect.about("Terms: A call that throws changes nothing; Promises 2, 3, 4: False, changing nothing");
        new RefusalTest("new", StickerFoundry::new).refusals();
        new RefusalTest("small", RefusalTest::small).refusals();
        new RefusalTest("full", RefusalTest::full).refusals();
        new RefusalTest("large", RefusalTest::large).refusals();
        new RefusalTest("strange", RefusalTest::strange).refusals();
        turnsRefused("small", RefusalTest::small);
        turnsRefused("full", RefusalTest::full);
        sixthRefused();
        ranksRefused();
        solvesRefused();
        Expect.finish();
    }

    /** Ten arrangements, one of them on the table, and a solution of two moves. */
    private static StickerFoundry small() {
        StickerFoundry x = Foundries.puzzle(5, "(0 1 2 3 4)", "(0 4)(1 3)");
        x.unrank(4);
        x.solve();
        x.unrank(7);
        return x;
    }

    /** As much as can be: twelve stickers, five turns, a full text, and a solution of another puzzle. */
    private static StickerFoundry full() {
        StickerFoundry x = small();
        x.stickers(12);
        String[] turns = {"(0 1 2 3 4 5 6 7 8 9 10 11)", "(0 1)", "", "(11 3)(4 5 6)", "(2)"};
        for (String turn : turns) {
            Foundries.addTurn(x, turn);
        }
        x.unrank(479001598L);
        Foundries.setText(x, FULL);
        return x;
    }

    /** Just too many arrangements to be told of, and none of them on the table. */
    private static StickerFoundry large() {
        StickerFoundry x = Puzzles.leastThatIsNot();
        x.move(2);
        x.swap(0, 8);
        return x;
    }

    /** No turns, and an arrangement that moves cannot make. */
    private static StickerFoundry strange() {
        StickerFoundry x = small();
        x.stickers(7);
        x.swap(0, 6);
        x.swap(2, 6);
        return x;
    }

    private void throwing(String call, Class<?> due, Consumer<StickerFoundry> asked) {
        StickerFoundry x = maker.get();
        String before = Seen.all(x);
        Expect.raises(name + " " + call, due, () -> asked.accept(x));
        Expect.same(name + " behind " + call, Seen.all(x), before);
    }

    private void refusing(String call, Predicate<StickerFoundry> asked) {
        StickerFoundry x = maker.get();
        String before = Seen.all(x);
        Expect.no(name + " " + call, asked.test(x));
        Expect.same(name + " behind " + call, Seen.all(x), before);
    }

    private void refusals() {
        for (int n : new int[] {0, 13, -1, -5, 16, Puzzles.LEAST, Puzzles.MOST}) {
            refusing("stickers(" + n + ")", x -> x.stickers(n));
        }
        for (int n : new int[] {-1, length + 1, 49, Puzzles.LEAST, Puzzles.MOST}) {
            refusing("cut(" + n + ")", x -> x.cut(n));
        }
        for (int limit : new int[] {-1, 5, Puzzles.LEAST, Puzzles.MOST}) {
            throwing("within(" + limit + ")", BAD_ARGUMENT, x -> x.within(limit));
        }
        for (long rank : new long[] {-1, order, order + 1, 1L << 32, Long.MIN_VALUE, Long.MAX_VALUE}) {
            throwing("unrank(" + rank + ")", NoSuchElementException.class, x -> x.unrank(rank));
        }
        typesRefused();
        stickersRefused();
        turnNumbersRefused();
    }

    private void typesRefused() {
        long good = Foundries.packed("abcdefgh");
        for (int n : new int[] {0, 9, -1, Puzzles.LEAST, Puzzles.MOST}) {
            refusing("type of " + n, x -> x.type(good, n));
        }
        for (long sign : new long[] {0, 31, 127, 255}) {
            refusing("sign " + sign + " alone", x -> x.type(sign, 1));
            refusing("sign " + sign + " first", x -> x.type(good & ~255L | sign, 8));
            refusing("sign " + sign + " last", x -> x.type(good & ~(255L << 56) | sign << 56, 8));
        }
        for (int n = Math.max(1, 49 - length); n <= 8; n++) {
            int more = n;
            refusing("type of " + n + " more", x -> x.type(good, more));
        }
    }

    private void stickersRefused() {
        int last = stickers - 1;
        for (int bad : new int[] {-1, stickers, 12, Puzzles.LEAST, Puzzles.MOST}) {
            throwing("place(" + bad + ")", BAD_INDEX, x -> x.place(bad));
            throwing("orbit(" + bad + ")", BAD_INDEX, x -> x.orbit(bad));
            throwing("swap(" + bad + ", 0)", BAD_INDEX, x -> x.swap(bad, 0));
            throwing("swap(last, " + bad + ")", BAD_INDEX, x -> x.swap(last, bad));
            throwing("swap(" + bad + ", " + bad + ")", BAD_INDEX, x -> x.swap(bad, bad));
            throwing("inOrbit(" + bad + ", 0)", BAD_INDEX, x -> x.inOrbit(bad, 0));
            throwing("inOrbit(0, " + bad + ")", BAD_INDEX, x -> x.inOrbit(0, bad));
            throwing("block(" + bad + ", 0)", BAD_INDEX, x -> x.block(bad, 0));
            throwing("block(last, " + bad + ")", BAD_INDEX, x -> x.block(last, bad));
            throwing("image(0, " + bad + ")", BAD_INDEX, x -> x.image(0, bad));
        }
    }

    private void turnNumbersRefused() {
        for (int bad : new int[] {-2, turns, 5, Puzzles.LEAST, Puzzles.MOST}) {
            throwing("image(" + bad + ", 0)", BAD_INDEX, x -> x.image(bad, 0));
            throwing("write(" + bad + ")", BAD_INDEX, x -> x.write(bad));
        }
        throwing("image(-1, 0)", BAD_INDEX, x -> x.image(-1, 0));
        for (int bad : new int[] {-1, 2 * turns, 2 * turns + 1, 10, Puzzles.LEAST, Puzzles.MOST}) {
            throwing("move(" + bad + ")", BAD_INDEX, x -> x.move(bad));
        }
    }

    private static StickerFoundry withText(Supplier<StickerFoundry> maker, String text) {
        StickerFoundry x = maker.get();
        Foundries.setText(x, text);
        return x;
    }

    private static void turnRefused(String name, Supplier<StickerFoundry> maker, String text, Class<?> due) {
        new RefusalTest(name, () -> withText(maker, text)).throwing("turn " + text, due, StickerFoundry::turn);
    }

    private static void turnsRefused(String name, Supplier<StickerFoundry> maker) {
        for (String text : new String[] {"(", "()", "(0 1", "(0 1)x", "(0 01)", "(0 100)", FULL, "(0 0 12"}) {
            turnRefused(name, maker, text, BAD_ARGUMENT);
        }
        for (String text : new String[] {"(12)", "(0 1)(99)", "(0 0 12)"}) {
            turnRefused(name, maker, text, BAD_INDEX);
        }
        for (String text : new String[] {"(0 0)", "(1 2)(3)(4 3)", "(0)(0)"}) {
            turnRefused(name, maker, text, BAD_STATE);
        }
    }

    private static void sixthRefused() {
        for (String text : new String[] {"", " ", "(0)", "(0 1)", "(11 10 9 8 7 6 5 4 3 2 1 0)"}) {
            turnRefused("full", RefusalTest::full, text, TOO_MANY);
        }
    }

    private static void ranksRefused() {
        new RefusalTest("large", RefusalTest::large).throwing("rank", BAD_STATE, StickerFoundry::rank);
        new RefusalTest("strange", RefusalTest::strange).throwing("rank", BAD_STATE, StickerFoundry::rank);
    }

    private static void solvesRefused() {
        new RefusalTest("strange", RefusalTest::strange).throwing("solve", BAD_STATE, StickerFoundry::solve);
        RefusalTest[] tooMany = {
            new RefusalTest("large", RefusalTest::large), new RefusalTest("full", RefusalTest::full)};
        for (RefusalTest test : tooMany) {
            test.throwing("solve", TOO_MANY, StickerFoundry::solve);
            test.throwing("diameter", TOO_MANY, StickerFoundry::diameter);
            for (int d : new int[] {0, 1, -1, Puzzles.LEAST, Puzzles.MOST}) {
                test.throwing("atDistance(" + d + ")", TOO_MANY, x -> x.atDistance(d));
            }
        }
    }
}
