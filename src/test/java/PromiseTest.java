import java.util.NoSuchElementException;

/** Each promise of the document: ordinary inputs, the edges that it names, wrong inputs. */
public final class PromiseTest {
    private static final int LEAST = Puzzles.LEAST;
    private static final int MOST = Puzzles.MOST;
    private static final Class<?> BAD_INDEX = IndexOutOfBoundsException.class;
    private static final Class<?> BAD_ARGUMENT = IllegalArgumentException.class;
    private static final Class<?> BAD_STATE = IllegalStateException.class;
    private static final Class<?> BAD_OPERATION = UnsupportedOperationException.class;

    private static final String[] S12 = Puzzles.S12;
    private static final String[] M12 = Puzzles.M12;

    public static void main(String[] args) {
        promise1NewObject();
        promise2Stickers();
        promise3Type();
        promise4Cut();
        promise5TurnReads();
        promise5TurnRefuses();
        promise5TurnNamesFirst();
        promise6Turns();
        promise7Image();
        promise8Move();
        promise9Swap();
        promise10Reset();
        promise11Place();
        promise12Order();
        promise13Orbit();
        promise14InOrbit();
        promise15Reachable();
        promise16Rank();
        promise17Unrank();
        promise18Block();
        promise19Diameter();
        promise20AtDistance();
        promise21Solve();
        promise22Solution();
        promise23Within();
        promise24Write();
        promise25Character();
        Expect.finish();
    }

    private static void promise1NewObject() {
        StickerFoundry x = new StickerFoundry();
        Expect.same("turns", x.turns(), 0);
        Expect.same("place(0)", x.place(0), 0);
        Expect.raises("place(1)", BAD_INDEX, () -> x.place(1));
        Expect.same("text", Foundries.text(x), "");
        Expect.no("cut(1)", x.cut(1));
        Expect.same("order", x.order(), 1);
        Expect.same("rank", x.rank(), 0);
        Expect.same("solution(0)", x.solution(0), StickerFoundry.NONE);
        Expect.same("diameter", x.diameter(), 0);
        Expect.same("NONE", StickerFoundry.NONE, -1);
    }

    private static void promise2Stickers() {
        for (int n = 1; n <= 12; n++) {
            StickerFoundry x = Foundries.puzzle(n);
            int beyond = n;
            Expect.same("place(n - 1)", x.place(n - 1), n - 1);
            Expect.raises("place(n)", BAD_INDEX, () -> x.place(beyond));
        }
        StickerFoundry x = Foundries.puzzle(4, "(0 1 2 3)", "(0 1)");
        x.move(0);
        x.solve();
        for (int n : new int[] {0, 13, -1, LEAST, MOST}) {
            Expect.no("stickers(" + n + ")", x.stickers(n));
        }
        Expect.same("turns as before", x.turns(), 2);
        Expect.same("places as before", Foundries.places(x, 4), "1 2 3 0 ");
        Expect.same("order as before", x.order(), 24);
        Expect.yes("stickers(4)", x.stickers(4));
        Expect.same("no turns", x.turns(), 0);
        Expect.same("solved", Foundries.places(x, 4), "0 1 2 3 ");
        Expect.same("order of none", x.order(), 1);
        Expect.same("diameter of none", x.diameter(), 0);
        Expect.same("text stays", Foundries.text(x), "(0 1)");
        Expect.same("solution stays", Foundries.solution(x), "1 ");
    }

    private static void promise3Type() {
        StickerFoundry x = new StickerFoundry();
        Expect.yes("lowest byte first", x.type(0x636261L, 3));
        Expect.same("text", Foundries.text(x), "abc");
        Expect.yes("bytes above are not looked at", x.type(0xFF00000000000064L, 1));
        Expect.same("text", Foundries.text(x), "abcd");
        for (int n : new int[] {0, 9, -1, LEAST, MOST}) {
            Expect.no("n is " + n, x.type(Foundries.packed("abcdefgh"), n));
        }
        for (long sign : new long[] {0, 31, 127, 128, 255}) {
            Expect.no("sign " + sign, x.type(sign << 56 | 0x61616161616161L, 8));
            Expect.no("sign " + sign, x.type(0x6100 | sign, 2));
        }
        Expect.same("text as before", Foundries.text(x), "abcd");
        Expect.yes("32 and 126", x.type(0x7E20, 2));
        Expect.same("text", Foundries.text(x), "abcd ~");
        for (int i = 0; i < 5; i++) {
            Expect.yes("eight more", x.type(Foundries.packed("12345678"), 8));
        }
        Expect.no("49", x.type(Foundries.packed("abc"), 3));
        Expect.yes("48", x.type(Foundries.packed("yz"), 2));
        Expect.no("one more", x.type(Foundries.packed("a"), 1));
        Expect.same("text", Foundries.text(x), "abcd ~1234567812345678123456781234567812345678yz");
    }

    private static void promise4Cut() {
        StickerFoundry x = new StickerFoundry();
        Expect.yes("cut(0) of none", x.cut(0));
        Foundries.setText(x, "abcdefghij");
        for (int n : new int[] {-1, 11, 48, LEAST, MOST}) {
            Expect.no("cut(" + n + ")", x.cut(n));
        }
        Expect.yes("cut to all", x.cut(10));
        Expect.same("text", Foundries.text(x), "abcdefghij");
        Expect.yes("cut(4)", x.cut(4));
        Expect.same("text", Foundries.text(x), "abcd");
        Expect.no("what was cut is gone", x.cut(5));
        Expect.yes("type", x.type('z', 1));
        Expect.same("text", Foundries.text(x), "abcdz");
        Expect.yes("cut(0)", x.cut(0));
        Expect.same("text", Foundries.text(x), "");
    }

    /** What a turn of twelve places is, written again. */
    private static void reads(String turn, String due) {
        StickerFoundry x = Foundries.puzzle(12, turn);
        Expect.same("text stays", Foundries.text(x), turn);
        x.write(0);
        Expect.same(turn, Foundries.text(x), due);
    }

    private static void promise5TurnReads() {
        reads("", "");
        reads("      ", "");
        reads("(0)", "");
        reads("(11)(0)(3)", "");
        reads("(0 1)", "(0 1)");
        reads("(1 0)", "(0 1)");
        reads("(3 1 2)", "(1 2 3)");
        reads("(3 2 1)", "(1 3 2)");
        reads(" ( 10   11  2 )  ( 1 0 ) ", "(0 1)(2 10 11)");
        reads("(9 8)(0)(7 6)", "(6 7)(8 9)");
        reads("(0 1 2 3 4 5 6 7 8 9 10 11)", "(0 1 2 3 4 5 6 7 8 9 10 11)");
        reads("(0  1   2  3  4   5  6  7   8  9  10  11      )", "(0 1 2 3 4 5 6 7 8 9 10 11)");
        StickerFoundry x = Foundries.puzzle(3);
        x.swap(0, 1);
        Expect.same("turn", Foundries.addTurn(x, "(0 1 2)"), 0);
        Expect.same("arrangement stays", Foundries.places(x, 3), "1 0 2 ");
        Expect.same("same text again", x.turn(), 1);
    }

    private static void refuses(String turn, Class<?> due) {
        StickerFoundry x = Foundries.puzzle(6, "(0 1)");
        Foundries.setText(x, turn);
        Expect.raises("turn " + turn, due, x::turn);
        Expect.same("turns as before", x.turns(), 1);
        Expect.same("text as before", Foundries.text(x), turn);
        Expect.same("order as before", x.order(), 2);
    }

    private static void promise5TurnRefuses() {
        String[] noCycles = {"(", ")", "()", "( )", "0", "0 1", "(0 1", "0 1)", "(0 1))", "((0 1))", "(0 (1 2))",
            "(0 1)2", "(0,1)", "(0-1)", "(-1)", "(+1)", "(a)", "(00)", "(01)", "(0 01)", "(00 1)", "(100)", "(999)",
            "(0 100)", "(1 000)", "(0 1)x", "x", "(0 1) (", "(0 1)()", "(/)", "(:)", "(0 1]", "[0 1)", "(0 1)(2 3"};
        for (String turn : noCycles) {
            refuses(turn, BAD_ARGUMENT);
        }
        for (String turn : new String[] {"(6)", "(0 6)", "(10)", "(99)", "(0 1)(2 12)", "(99 99)"}) {
            refuses(turn, BAD_INDEX);
        }
        for (String turn : new String[] {"(0 0)", "(0)(0)", "(0 1 2 0)", "(0 1)(2 3)(1 4)", "(5 4)(4 5)"}) {
            refuses(turn, BAD_STATE);
        }
    }

    private static void promise5TurnNamesFirst() {
        refuses("(0 0 9", BAD_ARGUMENT);
        refuses("(0 0)(9", BAD_ARGUMENT);
        refuses("(0 0 9)", BAD_INDEX);
        refuses("(0 0)(9)(1 1)", BAD_INDEX);
        StickerFoundry x = Foundries.puzzle(3, "(0 1)", "", "(0 1 2)", "(0)", "(1 2)");
        Expect.raises("a sixth", BAD_OPERATION, () -> Foundries.addTurn(x, "(0 1)"));
        Expect.raises("a sixth that is none", BAD_ARGUMENT, () -> Foundries.addTurn(x, "(0 1"));
        Expect.raises("a sixth beyond", BAD_INDEX, () -> Foundries.addTurn(x, "(0 3)"));
        Expect.raises("a sixth with a place twice", BAD_STATE, () -> Foundries.addTurn(x, "(0 0)"));
        Expect.same("turns", x.turns(), 5);
        x.stickers(3);
        Expect.same("the first of a new puzzle", Foundries.addTurn(x, "(0 1)"), 0);
    }

    private static void promise6Turns() {
        StickerFoundry x = Foundries.puzzle(2);
        for (int t = 0; t < 5; t++) {
            Expect.same("turns", x.turns(), t);
            Foundries.addTurn(x, "(0 1)");
        }
        Expect.same("turns", x.turns(), 5);
        x.reset();
        Expect.same("turns", x.turns(), 5);
    }

    private static void promise7Image() {
        StickerFoundry x = Foundries.puzzle(12, "(0 11 5)(2 3)", "(1 2 7)");
        int[] due = {11, 1, 3, 2, 4, 0, 6, 7, 8, 9, 10, 5};
        for (int p = 0; p < 12; p++) {
            Expect.same("image(0, " + p + ")", x.image(0, p), due[p]);
        }
        Expect.same("image(1, 1)", x.image(1, 1), 2);
        Expect.same("image(1, 7)", x.image(1, 7), 1);
        x.move(0);
        Expect.same("not the arrangement's", x.image(0, 0), 11);
        for (int bad : new int[] {-1, 2, 5, LEAST, MOST}) {
            Expect.raises("image(" + bad + ", 0)", BAD_INDEX, () -> x.image(bad, 0));
        }
        for (int bad : new int[] {-1, 12, LEAST, MOST}) {
            Expect.raises("image(0, " + bad + ")", BAD_INDEX, () -> x.image(0, bad));
        }
    }

    private static void promise8Move() {
        StickerFoundry x = Foundries.puzzle(5, "(0 1 2)", "(2 3 4)");
        x.move(0);
        Expect.same("turn 0", Foundries.places(x, 5), "1 2 0 3 4 ");
        x.move(2);
        Expect.same("then turn 1", Foundries.places(x, 5), "1 3 0 4 2 ");
        x.move(1);
        Expect.same("then turn 0 backwards", Foundries.places(x, 5), "0 3 2 4 1 ");
        for (int bad : new int[] {-1, 4, 5, 10, LEAST, MOST}) {
            Expect.raises("move(" + bad + ")", BAD_INDEX, () -> x.move(bad));
        }
        Expect.same("as before", Foundries.places(x, 5), "0 3 2 4 1 ");
        x.move(0);
        x.move(3);
        x.move(1);
        Expect.same("solved again", Foundries.places(x, 5), "0 1 2 3 4 ");
        Expect.raises("none", BAD_INDEX, () -> Foundries.puzzle(5).move(0));
    }

    private static void promise9Swap() {
        StickerFoundry x = Foundries.puzzle(4, "(0 1 2 3)");
        x.move(0);
        x.swap(0, 1);
        Expect.same("at places 0 and 1", Foundries.places(x, 4), "0 2 3 1 ");
        x.swap(3, 3);
        Expect.same("one place", Foundries.places(x, 4), "0 2 3 1 ");
        x.swap(3, 0);
        Expect.same("at places 3 and 0", Foundries.places(x, 4), "3 2 0 1 ");
        for (int bad : new int[] {-1, 4, LEAST, MOST}) {
            Expect.raises("swap(" + bad + ", 0)", BAD_INDEX, () -> x.swap(bad, 0));
            Expect.raises("swap(0, " + bad + ")", BAD_INDEX, () -> x.swap(0, bad));
        }
        Expect.same("as before", Foundries.places(x, 4), "3 2 0 1 ");
        Expect.same("the turn as before", x.image(0, 0), 1);
        StickerFoundry y = Foundries.puzzle(12);
        y.swap(11, 0);
        Expect.same("the greatest place", Foundries.places(y, 12), "11 1 2 3 4 5 6 7 8 9 10 0 ");
    }

    private static void promise10Reset() {
        StickerFoundry x = Foundries.puzzle(3, "(0 1 2)");
        x.reset();
        Expect.same("as it was", Foundries.places(x, 3), "0 1 2 ");
        x.move(0);
        x.swap(0, 1);
        x.reset();
        Expect.same("solved", Foundries.places(x, 3), "0 1 2 ");
        Expect.same("turns", x.turns(), 1);
        Expect.same("text", Foundries.text(x), "(0 1 2)");
    }

    private static void promise11Place() {
        StickerFoundry x = Foundries.puzzle(12, "(0 11 10)");
        x.move(0);
        Expect.same("place(0)", x.place(0), 11);
        Expect.same("place(11)", x.place(11), 10);
        Expect.same("place(10)", x.place(10), 0);
        for (int bad : new int[] {-1, 12, LEAST, MOST}) {
            Expect.raises("place(" + bad + ")", BAD_INDEX, () -> x.place(bad));
        }
    }

    private static void promise12Order() {
        Expect.same("no turns", Foundries.puzzle(12).order(), 1);
        Expect.same("idle turns", Foundries.puzzle(12, "", "(3)").order(), 1);
        Expect.same("S12", Foundries.puzzle(12, S12).order(), 479001600L);
        Expect.same("A12", Foundries.puzzle(12, "(0 1 2)", "(1 2 3 4 5 6 7 8 9 10 11)").order(), 239500800L);
        Expect.same("M12", Foundries.puzzle(12, M12).order(), 95040);
        Expect.same("M11", Foundries.puzzle(12, M12[0], M12[1]).order(), 7920);
        Expect.same("line", Foundries.puzzle(9, Puzzles.LINE8).order(), 504);
        Expect.same("3 4 5", Foundries.puzzle(12, "(0 1 2)(3 4 5 6)(7 8 9 10 11)").order(), 60);
        Expect.same("six pairs", Foundries.puzzle(12, "(0 1)", "(2 3)", "(4 5)", "(6 7)", "(8 9)(10 11)").order(), 32);
        Expect.same("pairs in a ring", Foundries.puzzle(12, "(0 6)", "(0 1 2 3 4 5)(6 7 8 9 10 11)").order(), 384);
        StickerFoundry x = Foundries.puzzle(12, M12);
        Foundries.addTurn(x, "(0 1 2)");
        Expect.same("one turn more", x.order(), 239500800L);
        x.swap(0, 1);
        Expect.same("whatever the arrangement", x.order(), 239500800L);
    }

    private static void promise13Orbit() {
        StickerFoundry m12 = Foundries.puzzle(12, M12);
        int[] due = {12, 11, 10, 9, 8, 1, 1, 1, 1, 1, 1, 1};
        for (int k = 0; k < 12; k++) {
            Expect.same("orbit(" + k + ")", m12.orbit(k), due[k]);
        }
        Foundries.addTurn(m12, "(0 1)");
        Expect.same("with one turn more", m12.orbit(5), 7);
        StickerFoundry x = Foundries.puzzle(6, "(0 1)(2 3)", "(4 5)");
        int[] pairs = {2, 1, 1, 1, 2, 1};
        for (int k = 0; k < 6; k++) {
            Expect.same("orbit(" + k + ")", x.orbit(k), pairs[k]);
        }
        for (int bad : new int[] {-1, 6, LEAST, MOST}) {
            Expect.raises("orbit(" + bad + ")", BAD_INDEX, () -> x.orbit(bad));
        }
    }

    private static void promise14InOrbit() {
        StickerFoundry x = Foundries.puzzle(6, "(0 1 2)", "(2 3)", "(4 5)");
        boolean[][] due = {
            {true, true, true, true, false, false}, {false, true, true, true, false, false},
            {false, false, true, true, false, false}, {false, false, false, true, false, false},
            {false, false, false, false, true, true}, {false, false, false, false, false, true}};
        for (int k = 0; k < 6; k++) {
            for (int p = 0; p < 6; p++) {
                Expect.same("inOrbit(" + k + ", " + p + ")", x.inOrbit(k, p) ? 1 : 0, due[k][p] ? 1 : 0);
            }
        }
        for (int bad : new int[] {-1, 6, 11, 12, LEAST, MOST}) {
            Expect.raises("inOrbit(" + bad + ", 0)", BAD_INDEX, () -> x.inOrbit(bad, 0));
            Expect.raises("inOrbit(0, " + bad + ")", BAD_INDEX, () -> x.inOrbit(0, bad));
        }
    }

    private static void promise15Reachable() {
        StickerFoundry x = Foundries.puzzle(5, "(0 1 2)", "(2 3 4)");
        Expect.yes("solved", x.reachable());
        x.swap(0, 1);
        Expect.no("odd", x.reachable());
        x.swap(3, 4);
        Expect.yes("even", x.reachable());
        Foundries.addTurn(x, "(0 1)");
        x.swap(0, 1);
        Expect.yes("odd with an odd turn", x.reachable());
        StickerFoundry y = Foundries.puzzle(2);
        y.swap(0, 1);
        Expect.no("no turns", y.reachable());
    }

    private static void promise16Rank() {
        StickerFoundry x = Foundries.puzzle(12, S12);
        Expect.same("solved", x.rank(), 0);
        x.swap(10, 11);
        Expect.same("the next", x.rank(), 1);
        x.reset();
        for (int p = 0; p < 6; p++) {
            x.swap(p, 11 - p);
        }
        Expect.same("the last", x.rank(), 479001599L);
        StickerFoundry y = Foundries.puzzle(4, "(0 1 2 3)");
        for (int i = 0; i < 4; i++) {
            Expect.same("turned", y.rank(), i);
            y.move(0);
        }
        y.swap(0, 1);
        Expect.raises("not reachable", BAD_STATE, y::rank);
        Expect.same("as before", Foundries.places(y, 4), "1 0 2 3 ");
    }

    private static void promise17Unrank() {
        StickerFoundry x = Foundries.puzzle(3, "(0 1)", "(1 2)");
        String[] due = {"0 1 2 ", "0 2 1 ", "1 0 2 ", "1 2 0 ", "2 0 1 ", "2 1 0 "};
        for (int r = 0; r < 6; r++) {
            x.unrank(r);
            Expect.same("unrank(" + r + ")", Foundries.places(x, 3), due[r]);
        }
        for (long bad : new long[] {-1, 6, 1L << 32, Long.MIN_VALUE, Long.MAX_VALUE}) {
            Expect.raises("unrank(" + bad + ")", NoSuchElementException.class, () -> x.unrank(bad));
        }
        Expect.same("as before", Foundries.places(x, 3), due[5]);
        StickerFoundry y = Foundries.puzzle(12, S12);
        y.unrank(479001599L);
        Expect.same("the last", Foundries.places(y, 12), "11 10 9 8 7 6 5 4 3 2 1 0 ");
        Expect.raises("one more", NoSuchElementException.class, () -> y.unrank(479001600L));
        StickerFoundry z = Foundries.puzzle(2, "(0 1)");
        z.stickers(4);
        z.swap(0, 3);
        z.unrank(0);
        Expect.same("from one that is not reachable", Foundries.places(z, 4), "0 1 2 3 ");
    }

    private static void blocks(StickerFoundry x, int j, int... due) {
        for (int s = 0; s < due.length; s++) {
            Expect.same("block(" + j + ", " + s + ")", x.block(j, s), due[s]);
        }
    }

    private static void promise18Block() {
        StickerFoundry ring = Foundries.puzzle(12, "(0 1 2 3 4 5 6 7 8 9 10 11)");
        blocks(ring, 0, 0, 1, 2, 3, 4, 5, 6, 7, 8, 9, 10, 11);
        blocks(ring, 1, 0, 0, 0, 0, 0, 0, 0, 0, 0, 0, 0, 0);
        blocks(ring, 2, 0, 1, 0, 1, 0, 1, 0, 1, 0, 1, 0, 1);
        blocks(ring, 3, 0, 1, 2, 0, 1, 2, 0, 1, 2, 0, 1, 2);
        blocks(ring, 6, 0, 1, 2, 3, 4, 5, 0, 1, 2, 3, 4, 5);
        blocks(ring, 8, 0, 1, 2, 3, 0, 1, 2, 3, 0, 1, 2, 3);
        StickerFoundry parts = Foundries.puzzle(7, "(1 2 3 4)(5 6)");
        blocks(parts, 3, -1, 1, 2, 1, 2, -1, -1);
        blocks(parts, 1, -1, 1, 2, 3, 4, -1, -1);
        blocks(parts, 6, -1, -1, -1, -1, -1, 5, 5);
        blocks(parts, 0, 0, -1, -1, -1, -1, -1, -1);
        blocks(Foundries.puzzle(12, M12), 11, 0, 0, 0, 0, 0, 0, 0, 0, 0, 0, 0, 0);
        StickerFoundry third = Foundries.puzzle(9, "(0 1)", "(2)", "(3 4 5 6 7 8)");
        blocks(third, 5, -1, -1, -1, 3, 4, 3, 4, 3, 4);
        parts.swap(0, 1);
        blocks(parts, 3, -1, 1, 2, 1, 2, -1, -1);
        for (int bad : new int[] {-1, 7, LEAST, MOST}) {
            Expect.raises("block(" + bad + ", 0)", BAD_INDEX, () -> parts.block(bad, 0));
            Expect.raises("block(0, " + bad + ")", BAD_INDEX, () -> parts.block(0, bad));
        }
    }

    private static void promise19Diameter() {
        Expect.same("one cycle", Foundries.puzzle(7, "(0 1 2 3 4 5 6)").diameter(), 3);
        Expect.same("3 4 5", Foundries.puzzle(12, "(0 1 2)(3 4 5 6)(7 8 9 10 11)").diameter(), 30);
        Expect.same("idle turns", Foundries.puzzle(5, "", "(2)").diameter(), 0);
        Expect.same("120 by two mirrors", Foundries.puzzle(12, "(0 1)(3 4)(5 6)(7 8)(9 10)",
            "(1 2)(4 5)(8 9)(10 11)").diameter(), 60);
        Expect.same("order 1440", Puzzles.mostThatIsTold().order(), 1440);
        Expect.same("S6", Foundries.puzzle(6, "(0 1 2 3 4 5)", "(0 1)").diameter(), 15);
        Expect.same("S6 beside a pair", Puzzles.mostThatIsTold().diameter(), 16);
        Expect.same("order 1512", Puzzles.leastThatIsNot().order(), 1512);
        Expect.raises("order 1512", BAD_OPERATION, () -> Puzzles.leastThatIsNot().diameter());
        StickerFoundry x = Foundries.puzzle(4, "(0 1 2 3)");
        x.swap(0, 1);
        Expect.same("whatever the arrangement", x.diameter(), 2);
        Foundries.addTurn(x, "(0 1)");
        Expect.same("with one turn more", x.diameter(), 6);
    }

    private static void promise20AtDistance() {
        StickerFoundry x = Foundries.puzzle(6, "(0 1 2 3 4 5)");
        int[] due = {1, 2, 2, 1, 0, 0};
        for (int d = 0; d < due.length; d++) {
            Expect.same("atDistance(" + d + ")", x.atDistance(d), due[d]);
        }
        for (int d : new int[] {-1, LEAST, MOST}) {
            Expect.same("atDistance(" + d + ")", x.atDistance(d), 0);
        }
        StickerFoundry most = Puzzles.mostThatIsTold();
        long sum = 0;
        for (int d = 0; d <= most.diameter(); d++) {
            sum += most.atDistance(d);
        }
        Expect.same("all", sum, 1440);
        Expect.raises("order 1512", BAD_OPERATION, () -> Puzzles.leastThatIsNot().atDistance(0));
        Expect.raises("below 0 too", BAD_OPERATION, () -> Puzzles.leastThatIsNot().atDistance(-1));
    }

    private static void promise21Solve() {
        StickerFoundry x = Foundries.puzzle(6, "(0 1 2 3 4 5)", "(0 1 2 3 4 5)");
        Expect.same("solved", x.solve(), 0);
        Expect.same("nothing to do", Foundries.solution(x), "");
        x.unrank(3);
        Expect.same("half way", x.solve(), 3);
        Expect.same("the least moves first", Foundries.solution(x), "0 0 0 ");
        Expect.same("the arrangement stays", x.rank(), 3);
        x.unrank(2);
        Expect.same("two", x.solve(), 2);
        Expect.same("backwards", Foundries.solution(x), "1 1 ");
        x.swap(0, 1);
        Expect.raises("not reachable", BAD_STATE, x::solve);
        Expect.same("the last solution stays", Foundries.solution(x), "1 1 ");
        StickerFoundry big = Puzzles.leastThatIsNot();
        Expect.raises("order 1512", BAD_OPERATION, big::solve);
        big.swap(0, 1);
        Expect.raises("and not reachable", BAD_OPERATION, big::solve);
        StickerFoundry two = Foundries.puzzle(4, "(0 1)", "(2 3)");
        two.move(0);
        two.move(2);
        Expect.same("either first", two.solve(), 2);
        Expect.same("the lesser first", Foundries.solution(two), "0 2 ");
        StickerFoundry most = Puzzles.mostThatIsTold();
        most.unrank(1439);
        int far = most.solve();
        for (int i = 0; i < far; i++) {
            most.move(most.solution(i));
        }
        Expect.same("it solves", most.rank(), 0);
    }

    private static void promise22Solution() {
        StickerFoundry x = Foundries.puzzle(5, "(0 1 2 3 4)");
        Expect.same("none found yet", x.solution(0), StickerFoundry.NONE);
        x.unrank(3);
        x.solve();
        Expect.same("solution(0)", x.solution(0), 0);
        Expect.same("solution(1)", x.solution(1), 0);
        for (int i : new int[] {2, 3, 1500, -1, LEAST, MOST}) {
            Expect.same("solution(" + i + ")", x.solution(i), StickerFoundry.NONE);
        }
        x.stickers(2);
        x.reset();
        Expect.same("of another puzzle", Foundries.solution(x), "0 0 ");
        x.solve();
        Expect.same("a new one", Foundries.solution(x), "");
    }

    private static void promise23Within() {
        StickerFoundry x = Foundries.puzzle(12, S12);
        for (int bad : new int[] {-1, 5, LEAST, MOST}) {
            Expect.raises("within(" + bad + ")", BAD_ARGUMENT, () -> x.within(bad));
        }
        int[] moves = {0, 2, 0, 2, 0};
        for (int d = 0; d <= 5; d++) {
            for (int limit = 0; limit <= 4; limit++) {
                Expect.same(d + " within(" + limit + ")", x.within(limit), d <= limit ? d : StickerFoundry.NONE);
            }
            if (d < 5) {
                x.move(moves[d]);
            }
        }
        StickerFoundry y = Foundries.puzzle(12, "(0 1 2)", "(2 3 4 5 6 7 8 9 10 11)");
        y.move(2);
        y.move(2);
        y.move(0);
        Expect.same("behind a longer way", y.within(4), 3);
        Expect.same("behind a longer way", y.within(3), 3);
        Expect.same("behind a longer way", y.within(2), StickerFoundry.NONE);
        StickerFoundry small = Foundries.puzzle(8, "(0 1 2 3 4 5 6 7)");
        int[] due = {0, 1, 2, 3, 4, 3, 2, 1};
        for (int r = 0; r < 8; r++) {
            small.unrank(r);
            Expect.same("rank " + r, small.within(4), due[r]);
            Expect.same("rank " + r, small.within(2), due[r] <= 2 ? due[r] : StickerFoundry.NONE);
        }
        small.swap(0, 1);
        Expect.same("not reachable", small.within(4), StickerFoundry.NONE);
        Foundries.addTurn(small, "(0 1)");
        small.reset();
        small.swap(0, 1);
        Expect.same("with one turn more", small.within(4), 1);
        Expect.same("the solution is not touched", small.solution(0), StickerFoundry.NONE);
    }

    private static void promise24Write() {
        StickerFoundry x = Foundries.puzzle(12, "(11 10)(3 1 2)", "(4)", "(5 9 7)");
        Expect.same("solved", x.write(StickerFoundry.NONE), 0);
        Expect.same("text", Foundries.text(x), "");
        Expect.same("turn 0", x.write(0), 14);
        Expect.same("text", Foundries.text(x), "(1 2 3)(10 11)");
        Expect.same("it can be read", x.turn(), 3);
        Expect.same("turn 2", x.write(2), 7);
        Expect.same("text", Foundries.text(x), "(5 9 7)");
        Expect.same("idle turn", x.write(1), 0);
        Expect.same("text", Foundries.text(x), "");
        x.move(1);
        Expect.same("arrangement", x.write(StickerFoundry.NONE), 14);
        Expect.same("text", Foundries.text(x), "(1 3 2)(10 11)");
        for (int bad : new int[] {-2, 4, 5, LEAST, MOST}) {
            Expect.raises("write(" + bad + ")", BAD_INDEX, () -> x.write(bad));
        }
        Expect.same("as before", Foundries.text(x), "(1 3 2)(10 11)");
        StickerFoundry pairs = Foundries.puzzle(12, "(0 11)(1 10)(2 9)(3 8)(4 7)(5 6)");
        pairs.move(0);
        Expect.same("the longest", pairs.write(-1), 32);
        Expect.same("text", Foundries.text(pairs), "(0 11)(1 10)(2 9)(3 8)(4 7)(5 6)");
        pairs.reset();
        pairs.swap(2, 11);
        pairs.write(-1);
        Expect.same("not reachable", Foundries.text(pairs), "(2 11)");
    }

    private static void promise25Character() {
        StickerFoundry x = new StickerFoundry();
        Expect.same("none", x.character(0), 0);
        Foundries.setText(x, " ~(1");
        int[] due = {32, 126, 40, 49, 0};
        for (int i = 0; i < due.length; i++) {
            Expect.same("character(" + i + ")", x.character(i), due[i]);
        }
        for (int i : new int[] {-1, 47, 48, LEAST, MOST}) {
            Expect.same("character(" + i + ")", x.character(i), 0);
        }
        x.cut(2);
        Expect.same("cut off", x.character(2), 0);
    }
}
