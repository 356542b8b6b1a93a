/** Turns in cycles: each sentence of the document that names a boundary case of them. */
public final class TurnEdgeTest {
    private static final String NOT_IN_CYCLES = "IllegalArgumentException";
    private static final String NO_PLACE = "IndexOutOfBoundsException";
    private static final String TWICE = "IllegalStateException";
    private static final String FIVE = "UnsupportedOperationException";

    public static void main(String[] args) {
        textWithoutCycles();
        spacesAnywhere();
        spacesWithinNumbers();
        oneOrMoreNumbers();
        numbersUpTo99();
        zeroBeforeAnotherDigit();
        everyPlaceOfEveryPuzzle();
        otherSigns();
        bracketsLeftOut();
        lastToFirst();
        placesInNoCycle();
        fullText();
        placeTwice();
        fiveTurns();
        firstNamed();
        textAndArrangementStay();
        everyShortText();
        Expect.finish();
    }

    /** The number of the turn that the text makes, or the name of what is thrown. */
    private static String answer(StickerFoundry x, String text) {
        Foundries.setText(x, text);
        int[] turn = new int[1];
        String raised = Expect.raisedBy(() -> turn[0] = x.turn());
        return raised.equals("nothing") ? Integer.toString(turn[0]) : raised;
    }

    private static void answers(int n, String text, String due) {
        Expect.same(n + " stickers, " + text, answer(Foundries.puzzle(n), text), due);
    }

    private static void takes(int n, String text, String images) {
        StickerFoundry x = Foundries.puzzle(n);
        Expect.same(text, answer(x, text), "0");
        Expect.same(text, Seen.images(x, 0, n), images);
    }

    private static void textWithoutCycles() {
        Expect.about("THE TEXT: A text without cycles takes nothing anywhere");
        takes(1, "", "0 ");
        takes(1, " ", "0 ");
        takes(12, "", "0 1 2 3 4 5 6 7 8 9 10 11 ");
        takes(12, " ".repeat(48), "0 1 2 3 4 5 6 7 8 9 10 11 ");
    }

    private static void spacesAnywhere() {
        Expect.about("THE TEXT: with spaces anywhere but within numbers");
        String text = "(10 3)(0 11 2)";
        String due = "11 1 0 10 4 5 6 7 8 9 3 2 ";
        takes(12, text, due);
        for (int i = 0; i <= text.length(); i++) {
            boolean within = i > 0 && i < text.length() && digit(text.charAt(i - 1)) && digit(text.charAt(i));
            for (String spaces : new String[] {" ", "  ", " ".repeat(34)}) {
                if (!within) {
                    takes(12, text.substring(0, i) + spaces + text.substring(i), due);
                }
            }
        }
    }

    private static boolean digit(char sign) {
        return sign >= '0' && sign <= '9';
    }

    private static void spacesWithinNumbers() {
        Expect.about("THE TEXT: with spaces anywhere but within numbers; with spaces between two");
        takes(12, "(10 2)", "0 1 10 3 4 5 6 7 8 9 2 11 ");
        takes(12, "(1 0 2)", "2 0 1 3 4 5 6 7 8 9 10 11 ");
        takes(12, "(11)", "0 1 2 3 4 5 6 7 8 9 10 11 ");
        answers(12, "(1 1)", TWICE);
        answers(12, "(12)", NO_PLACE);
        answers(12, "(1 2)", "0");
        answers(12, "(1  0)", "0");
    }

    private static void oneOrMoreNumbers() {
        Expect.about("THE TEXT: a cycle is (, one or more numbers with spaces between two, )");
        for (String text : new String[] {"()", "( )", "(  )", "(0)()", "()(0)", "(0) ( )", "() ()"}) {
            answers(12, text, NOT_IN_CYCLES);
        }
        answers(12, "(0)", "0");
        answers(12, "(0)(1)", "0");
        for (int n = 1; n <= 12; n++) {
            answers(n, Puzzles.ring(n), "0");
        }
    }

    private static void numbersUpTo99() {
        Expect.about("THE TEXT: Numbers are 0 .. 99");
        for (int number = 0; number <= 1100; number++) {
            String due = number > 99 ? NOT_IN_CYCLES : number > 11 ? NO_PLACE : "0";
            answers(12, "(" + number + ")", due);
            answers(12, "( " + number + " )", due);
        }
        for (String number : new String[] {"-1", "+1", "1.", "4294967296", "18446744073709551616", "2147483648"}) {
            answers(12, "(" + number + ")", NOT_IN_CYCLES);
        }
    }

    private static void zeroBeforeAnotherDigit() {
        Expect.about("THE TEXT: digits, without a 0 before another digit");
        for (int number = 0; number <= 99; number++) {
            answers(12, "(0" + number + ")", NOT_IN_CYCLES);
            answers(12, "(11 00" + number + ")", NOT_IN_CYCLES);
            answers(12, "(0" + number + " 11)", NOT_IN_CYCLES);
        }
        answers(12, "(0)", "0");
        answers(12, "(10)", "0");
        answers(12, "(0 10)", "0");
        answers(12, "(90)", NO_PLACE);
    }

    private static void everyPlaceOfEveryPuzzle() {
        Expect.about("Promise 5: IndexOutOfBoundsException when a number is no place");
        for (int n = 1; n <= 12; n++) {
            for (int number = 0; number <= 99; number++) {
                answers(n, "(" + number + ")", number < n ? "0" : NO_PLACE);
                String before = number == 0 ? "(0" : "(0 " + number;
                answers(n, before + ")", number < n ? "0" : NO_PLACE);
            }
        }
        answers(6, "(0 1)(2 3 4 5)(6)", NO_PLACE);
        answers(6, "(6)(0 1)(2 3 4 5)", NO_PLACE);
        answers(7, "(0 1)(2 3 4 5)(6)", "0");
    }

    private static void otherSigns() {
        Expect.about("Promise 5: IllegalArgumentException when it is not in cycles");
        String text = " (10 1)";
        for (int i = 0; i <= text.length(); i++) {
            for (char sign = 33; sign <= 126; sign++) {
                if (!digit(sign)) {
                    answers(12, text.substring(0, i) + sign + text.substring(i), NOT_IN_CYCLES);
                }
            }
        }
        for (char sign = '0'; sign <= '9'; sign++) {
            answers(12, sign + text, NOT_IN_CYCLES);
            answers(12, text + sign, NOT_IN_CYCLES);
            answers(12, Character.toString(sign), NOT_IN_CYCLES);
        }
    }

    private static void bracketsLeftOut() {
        Expect.about("THE TEXT: it is a row of cycles; a cycle is (, .., )");
        String text = "(0 1)(2 3)";
        for (int i = 0; i < text.length(); i++) {
            if (text.charAt(i) == '(' || text.charAt(i) == ')') {
                answers(12, text.substring(0, i) + text.substring(i + 1), NOT_IN_CYCLES);
                answers(12, text.substring(0, i) + " " + text.substring(i + 1), NOT_IN_CYCLES);
                answers(12, text.substring(0, i) + text.charAt(i) + text.substring(i), NOT_IN_CYCLES);
            }
        }
        for (String part : new String[] {"(", ")", ")(", "(0", "0)", "(0 ", " 0)", ")0(", "(0(", ")0)", "(0)(", "(0))"}) {
            answers(12, part, NOT_IN_CYCLES);
        }
    }

    private static void lastToFirst() {
        Expect.about("THE TEXT: at the last one to the first");
        takes(1, "(0)", "0 ");
        takes(2, "(1 0)", "1 0 ");
        takes(12, "(0 11)", "11 1 2 3 4 5 6 7 8 9 10 0 ");
        takes(12, "(0 1 2 3 4 5 6 7 8 9 10 11)", "1 2 3 4 5 6 7 8 9 10 11 0 ");
        takes(12, "(11 10 9 8 7 6 5 4 3 2 1 0)", "11 0 1 2 3 4 5 6 7 8 9 10 ");
        takes(6, "(0 1 2)(5 4 3)", "1 2 0 5 3 4 ");
        takes(6, "(2)(0 1)(5 3)(4)", "1 0 2 5 4 3 ");
    }

    private static void placesInNoCycle() {
        Expect.about("THE TEXT: What is at places that are in no cycle stays");
        takes(12, "(5 6)", "0 1 2 3 4 6 5 7 8 9 10 11 ");
        takes(12, "(0 1)", "1 0 2 3 4 5 6 7 8 9 10 11 ");
        takes(12, "(10 11)", "0 1 2 3 4 5 6 7 8 9 11 10 ");
    }

    private static void fullText() {
        Expect.about("THE TEXT has at most 48 characters");
        String full = "(0)(1)(2)(3)(4)(5)(6)(7)(8)(9)(10 11)           ";
        Expect.same("length", full.length(), 48);
        takes(12, full, "0 1 2 3 4 5 6 7 8 9 11 10 ");
        takes(12, " ".repeat(43) + "(0 9)", "9 1 2 3 4 5 6 7 8 0 10 11 ");
        answers(12, " ".repeat(44) + "(0 9", NOT_IN_CYCLES);
        answers(12, "(0 ".repeat(16), NOT_IN_CYCLES);
        answers(12, "(" + "0 ".repeat(23) + ")", TWICE);
        answers(12, "(0)".repeat(16), TWICE);
        answers(12, "1".repeat(48), NOT_IN_CYCLES);
        answers(12, "(" + "9".repeat(46) + ")", NOT_IN_CYCLES);
    }

    private static void placeTwice() {
        Expect.about("Promise 5: IllegalStateException when a place is there twice");
        for (int p = 0; p < 12; p++) {
            answers(12, "(" + p + " " + p + ")", TWICE);
            answers(12, "(" + p + ")(" + p + ")", TWICE);
            answers(12, "(" + p + " " + (p + 1) % 12 + " " + p + ")", TWICE);
            answers(12, "(" + (p + 1) % 12 + " " + p + ")(" + (p + 2) % 12 + " " + p + ")", TWICE);
            answers(12, "(" + p + " " + (p + 1) % 12 + ")(" + (p + 2) % 12 + ")", "0");
        }
        answers(12, "(0 1 2 3 4 5 6 7 8 9 10 11)(0)", TWICE);
        answers(12, "(0 1 2 3 4 5 6 7 8 9 10 11 11)", TWICE);
    }

    private static void fiveTurns() {
        Expect.about("Promise 5: its number; UnsupportedOperationException when there are five turns");
        for (String text : new String[] {"", "(0)", "(0 1)", "(0 1 2)"}) {
            StickerFoundry x = Foundries.puzzle(3);
            for (int t = 0; t < 5; t++) {
                Expect.same("turns", x.turns(), t);
                Expect.same("turn", answer(x, text), Integer.toString(t));
            }
            for (int i = 0; i < 3; i++) {
                Expect.same("a sixth", answer(x, text), FIVE);
                Expect.same("turns", x.turns(), 5);
            }
            x.stickers(3);
            Expect.same("in a new puzzle", answer(x, text), "0");
        }
    }

    private static void firstNamed() {
        Expect.about("Terms: where several exceptions that a call names fit, it is the one that it names first");
        String[][] faults = {
            {"(0 0 3", NOT_IN_CYCLES}, {"(3 0 0", NOT_IN_CYCLES}, {"(0 0", NOT_IN_CYCLES}, {"(3", NOT_IN_CYCLES},
            {"(0 0)(3)(", NOT_IN_CYCLES}, {"(0 0 3 100)", NOT_IN_CYCLES}, {"(3)(0)(0)x", NOT_IN_CYCLES},
            {"(0 0 3)", NO_PLACE}, {"(3 0 0)", NO_PLACE}, {"(3 3)", NO_PLACE}, {"(0)(0)(99)", NO_PLACE},
            {"(0 0)", TWICE}, {"(2)(1 2)", TWICE}};
        for (String[] fault : faults) {
            answers(3, fault[0], fault[1]);
            StickerFoundry x = Foundries.puzzle(3, "", "(0 1)", "(1 2)", "(0 1 2)", "(0 2)");
            Expect.same("with five turns, " + fault[0], answer(x, fault[0]), fault[1]);
            Expect.same("turns", x.turns(), 5);
        }
        StickerFoundry x = Foundries.puzzle(3, "", "(0 1)", "(1 2)", "(0 1 2)", "(0 2)");
        Expect.same("with five turns", answer(x, "(0 1)"), FIVE);
    }

    private static void textAndArrangementStay() {
        Expect.about("Promise 5: The text (which stays); The arrangement stays as it is");
        StickerFoundry x = Foundries.puzzle(4, "(0 1 2 3)");
        x.move(0);
        x.swap(0, 1);
        String places = Foundries.places(x, 4);
        Expect.same("turn", answer(x, " ( 3 1 ) "), "1");
        Expect.same("text", Foundries.text(x), " ( 3 1 ) ");
        Expect.same("places", Foundries.places(x, 4), places);
        Expect.same("the same text once more", x.turn(), 2);
        Expect.same("places", Foundries.places(x, 4), places);
    }

    /** Each text of up to six of these signs, in a puzzle of two stickers, is as the model says. */
    private static void everyShortText() {
        Expect.about("Promise 5, each short text");
        everyTextFrom("", 6);
    }

    private static void everyTextFrom(String text, int more) {
        Model model = new Model();
        model.stickers(2);
        model.text = text;
        String raised = Expect.raisedBy(model::turn);
        StickerFoundry x = Foundries.puzzle(2);
        Expect.same(text, answer(x, text), raised.equals("nothing") ? "0" : raised);
        if (raised.equals("nothing")) {
            Expect.same(text, x.image(0, 0), model.image(0, 0));
        }
        for (int i = 0; i < 5 && more > 0; i++) {
            everyTextFrom(text + "() 01".charAt(i), more - 1);
        }
    }
}
