/** The text: each sentence of the document that names a boundary case of it. */
public final class TextEdgeTest {
    private static final int[] FAR = {-1, -2, Puzzles.LEAST, Puzzles.MOST};

    public static void main(String[] args) {
        newTextIsEmpty();
        typeTakesOneToEight();
        typeTakesLowestByteFirst();
        typeTakesUpTo48();
        typeTakes32To126();
        typeLooksOnlyAtItsBytes();
        cutTakesNoNegative();
        cutTakesWhatThereIs();
        cutAtTheEnds();
        characterOfEveryPlace();
        writeNothing();
        writeTwoOrMore();
        writeFromTheLeast();
        writeTheGreatestNumbers();
        writeTheLongest();
        writeInPlaceOfAFullText();
        writeOneOfTheTurns();
        Expect.finish();
    }

    /** A text of so many characters, all of them different from their neighbours. */
    private static StickerFoundry withText(int length) {
        StickerFoundry x = new StickerFoundry();
        Foundries.setText(x, signs(length));
        return x;
    }

    private static String signs(int length) {
        StringBuilder signs = new StringBuilder();
        for (int i = 0; i < length; i++) {
            signs.append((char) ('A' + i));
        }
        return signs.toString();
    }

    private static void newTextIsEmpty() {
        Expect.about("Promise 1: an empty text");
        Expect.same("character(0)", new StickerFoundry().character(0), 0);
        Expect.yes("cut(0)", new StickerFoundry().cut(0));
        Expect.no("cut(1)", new StickerFoundry().cut(1));
        Expect.same("it is in cycles", new StickerFoundry().turn(), 0);
    }

    private static void typeTakesOneToEight() {
        Expect.about("Promise 3: False, changing nothing, when n is not 1 .. 8");
        for (int n = -300; n <= 300; n++) {
            StickerFoundry x = withText(3);
            boolean due = n >= 1 && n <= 8;
            Expect.same("type of " + n, x.type(Foundries.packed("abcdefgh"), n) ? 1 : 0, due ? 1 : 0);
            Expect.same("text", Foundries.text(x), "ABC" + (due ? "abcdefgh".substring(0, n) : ""));
        }
        for (int n : FAR) {
            StickerFoundry x = withText(3);
            Expect.no("type of " + n, x.type(Foundries.packed("abcdefgh"), n));
            Expect.same("text", Foundries.text(x), "ABC");
        }
    }

    private static void typeTakesLowestByteFirst() {
        Expect.about("Promise 3: n characters come behind the text, the lowest byte of w first");
        StickerFoundry x = new StickerFoundry();
        Expect.yes("eight", x.type(0x3837363534333231L, 8));
        Expect.same("text", Foundries.text(x), "12345678");
        Expect.yes("a first byte more", x.type(0x3930, 2));
        Expect.same("text", Foundries.text(x), "1234567809");
    }

    private static void typeTakesUpTo48() {
        Expect.about("Promise 3: False, changing nothing, when there would be more than 48");
        for (int length = 0; length <= 48; length++) {
            for (int n = 1; n <= 8; n++) {
                StickerFoundry x = withText(length);
                boolean due = length + n <= 48;
                Expect.same(length + " and " + n, x.type(Foundries.packed("abcdefgh"), n) ? 1 : 0, due ? 1 : 0);
                String text = signs(length) + (due ? "abcdefgh".substring(0, n) : "");
                Expect.same(length + " and " + n, Foundries.text(x), text);
            }
        }
    }

    private static void typeTakes32To126() {
        Expect.about("Promise 3: False, changing nothing, when one is not as said (32 .. 126)");
        for (int sign = 0; sign <= 255; sign++) {
            for (int i = 0; i < 8; i++) {
                StickerFoundry x = withText(2);
                String before = signs(8).substring(0, i);
                String behind = signs(8).substring(i + 1);
                boolean due = sign >= 32 && sign <= 126;
                long w = Foundries.packed(before + (char) sign + behind);
                Expect.same("sign " + sign + " as " + i, x.type(w, 8) ? 1 : 0, due ? 1 : 0);
                Expect.same("text", Foundries.text(x), due ? "AB" + before + (char) sign + behind : "AB");
            }
        }
    }

    private static void typeLooksOnlyAtItsBytes() {
        Expect.about("Promise 3: n characters come behind the text");
        for (int n = 1; n < 8; n++) {
            StickerFoundry x = new StickerFoundry();
            long bad = -1L << (8 * n);
            Expect.yes("255 behind " + n, x.type(bad | Foundries.packed(signs(n)), n));
            Expect.same("text", Foundries.text(x), signs(n));
            Expect.no("255 as one of " + (n + 1), x.type(bad | Foundries.packed(signs(n)), n + 1));
            Expect.yes("0 behind " + n, x.type(Foundries.packed(signs(n)), n));
            Expect.no("0 as one of " + (n + 1), x.type(Foundries.packed(signs(n)), n + 1));
            Expect.same("text", Foundries.text(x), signs(n) + signs(n));
        }
    }

    private static void cutTakesNoNegative() {
        Expect.about("Promise 4: False, changing nothing, when n is negative");
        for (int length : new int[] {0, 1, 47, 48}) {
            StickerFoundry x = withText(length);
            for (int n : new int[] {-1, -2, -48, Puzzles.LEAST}) {
                Expect.no("cut(" + n + ")", x.cut(n));
            }
            Expect.same("text", Foundries.text(x), signs(length));
        }
    }

    private static void cutTakesWhatThereIs() {
        Expect.about("Promise 4: False, changing nothing, when it has not so many");
        for (int length = 0; length <= 48; length++) {
            for (int n : new int[] {length + 1, length + 2, 49, 100, Puzzles.MOST}) {
                StickerFoundry x = withText(length);
                Expect.no(length + " cut(" + n + ")", x.cut(n));
                Expect.same("text", Foundries.text(x), signs(length));
            }
        }
        StickerFoundry x = withText(9);
        Expect.yes("cut(4)", x.cut(4));
        Expect.no("it has no five now", x.cut(5));
        Expect.no("nor nine", x.cut(9));
        Expect.same("text", Foundries.text(x), signs(4));
    }

    private static void cutAtTheEnds() {
        Expect.about("Promise 4: The text keeps its first n characters");
        for (int length = 0; length <= 48; length++) {
            for (int n = 0; n <= length; n++) {
                StickerFoundry x = withText(length);
                Expect.yes(length + " cut(" + n + ")", x.cut(n));
                Expect.same(length + " cut(" + n + ")", Foundries.text(x), signs(n));
            }
        }
        StickerFoundry x = withText(48);
        Expect.yes("cut(40)", x.cut(40));
        Expect.yes("there is room again", x.type(Foundries.packed("abcdefgh"), 8));
        Expect.same("text", Foundries.text(x), signs(40) + "abcdefgh");
    }

    private static void characterOfEveryPlace() {
        Expect.about("Promise 25: Character i of the text; 0 when there is none");
        for (int length = 0; length <= 48; length++) {
            StickerFoundry x = withText(length);
            for (int i = -3; i <= 52; i++) {
                Expect.same("character(" + i + ")", x.character(i), i >= 0 && i < length ? 'A' + i : 0);
            }
            for (int i : FAR) {
                Expect.same("character(" + i + ")", x.character(i), 0);
            }
        }
        StickerFoundry x = withText(48);
        x.cut(20);
        Expect.same("the last that is kept", x.character(19), 'A' + 19);
        Expect.same("the first that is cut off", x.character(20), 0);
        Expect.same("the last that is cut off", x.character(47), 0);
    }

    private static void writes(StickerFoundry x, int t, String due) {
        Expect.same("write(" + t + ")", x.write(t), due.length());
        Expect.same("write(" + t + ")", Foundries.text(x), due);
    }

    private static void writeNothing() {
        Expect.about("TO WRITE: nothing, if there are none");
        for (int n = 1; n <= 12; n++) {
            StickerFoundry x = Foundries.puzzle(n, "", "  ", "(0)");
            for (int t = -1; t < 3; t++) {
                Foundries.setText(x, "(0)(0)");
                writes(x, t, "");
            }
        }
    }

    private static void writeTwoOrMore() {
        Expect.about("TO WRITE: the cycles of two or more places");
        writes(Foundries.puzzle(12, "(0)(1)(2)(3)(4)(5)(6)(7)(8)(9)(10)(11)"), 0, "");
        writes(Foundries.puzzle(12, "(0)(1 2)(3)(4 5 6)(11)"), 0, "(1 2)(4 5 6)");
        for (int n = 2; n <= 12; n++) {
            writes(Foundries.puzzle(n, Puzzles.ring(n)), 0, Puzzles.ring(n));
        }
        StickerFoundry x = Foundries.puzzle(12);
        x.swap(11, 0);
        writes(x, StickerFoundry.NONE, "(0 11)");
    }

    private static void writeFromTheLeast() {
        Expect.about("TO WRITE: each beginning with its least place, in the order of these, as they are read");
        StickerFoundry x = Foundries.puzzle(12, "(11 9 10)(8 7)(6 5 4 3)(2 1 0)");
        writes(x, 0, "(0 2 1)(3 6 5 4)(7 8)(9 10 11)");
        x.move(0);
        writes(x, StickerFoundry.NONE, "(0 2 1)(3 6 5 4)(7 8)(9 10 11)");
        x.move(1);
        x.move(1);
        writes(x, StickerFoundry.NONE, "(0 1 2)(3 4 5 6)(7 8)(9 11 10)");
        writes(Foundries.puzzle(12, "(1 11)(0 10)"), 0, "(0 10)(1 11)");
    }

    private static void writeTheGreatestNumbers() {
        Expect.about("TO WRITE: with one space between two numbers and no others");
        StickerFoundry x = Foundries.puzzle(12, " ( 9   10 ) ", "(10  11)", "( 8 9)", "(11 9  10 )");
        writes(x, 0, "(9 10)");
        writes(x, 1, "(10 11)");
        writes(x, 2, "(8 9)");
        writes(x, 3, "(9 10 11)");
    }

    private static void writeTheLongest() {
        Expect.about("Promise 24: WRITES it into the text: its length");
        writes(Foundries.puzzle(12, "(0 1)(2 3)(4 5)(6 7)(8 9)(10 11)"), 0, "(0 1)(2 3)(4 5)(6 7)(8 9)(10 11)");
        StickerFoundry x = Foundries.puzzle(12);
        for (int p = 0; p < 6; p++) {
            x.swap(p, 11 - p);
        }
        writes(x, StickerFoundry.NONE, "(0 11)(1 10)(2 9)(3 8)(4 7)(5 6)");
    }

    private static void writeInPlaceOfAFullText() {
        Expect.about("Promise 24: into the text in place of what it has");
        StickerFoundry x = Foundries.puzzle(3, "(0 2)");
        Foundries.setText(x, signs(48));
        writes(x, 0, "(0 2)");
        Expect.same("what was there is gone", x.character(5), 0);
        Expect.no("so much is there", x.cut(6));
        Foundries.setText(x, signs(48));
        writes(x, StickerFoundry.NONE, "");
        Expect.yes("there is room again", x.type(Foundries.packed("abcdefgh"), 8));
        Expect.same("text", Foundries.text(x), "abcdefgh");
    }

    private static void writeOneOfTheTurns() {
        Expect.about("Promise 24: turn t, or the arrangement (t is NONE); other numbers are refused");
        for (int turns = 0; turns <= 5; turns++) {
            StickerFoundry x = Foundries.puzzle(12);
            x.swap(10, 11);
            for (int t = 0; t < turns; t++) {
                Foundries.addTurn(x, "(0 " + (t + 1) + ")");
            }
            for (int t = 0; t < turns; t++) {
                writes(x, t, "(0 " + (t + 1) + ")");
            }
            writes(x, StickerFoundry.NONE, "(10 11)");
            for (int t : new int[] {-2, turns, turns + 1, 5, Puzzles.LEAST, Puzzles.MOST}) {
                Expect.raises("write(" + t + ")", IndexOutOfBoundsException.class, () -> x.write(t));
            }
            Expect.same("the text is as before", Foundries.text(x), "(10 11)");
        }
    }
}
