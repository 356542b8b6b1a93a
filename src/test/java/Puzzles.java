/** Puzzles that more than one test needs. */
final class Puzzles {
    static final int LEAST = Integer.MIN_VALUE;
    static final int MOST = Integer.MAX_VALUE;
    static final String[] S12 = {"(0 1 2 3 4 5 6 7 8 9 10 11)", "(0 1)"};
    static final String[] M12 = {"(0 1 2 3 4 5 6 7 8 9 10)", "(2 6 10 7)(3 9 4 5)",
        "(0 11)(1 10)(2 5)(3 7)(4 8)(6 9)"};
    /** The group of order 504 on the nine points of the line over eight elements. */
    static final String[] LINE8 = {"(0 1)(2 3)(4 5)(6 7)", "(1 2 4 3 6 7 5)", "(0 8)(2 5)(3 6)(4 7)"};

    private Puzzles() {
    }

    /**
     * S6 beside a pair: 1440 arrangements. No puzzle of twelve stickers has more up to 1500: of the
     * numbers 1441 .. 1511 only 1485 divides 12!, and nothing with a cycle of eleven has that order.
     */
    static StickerFoundry mostThatIsTold() {
        return Foundries.puzzle(8, "(0 1 2 3 4 5)", "(0 1)", "(6 7)");
    }

    /** The line over eight elements with its third power: 1512, the least above 1500. */
    static StickerFoundry leastThatIsNot() {
        return Foundries.puzzle(9, LINE8[0], LINE8[1], LINE8[2], "(2 4 6)(3 5 7)");
    }

    static StickerFoundry all12() {
        return Foundries.puzzle(12, S12);
    }

    /** One cycle of all places. */
    static String ring(int n) {
        StringBuilder ring = new StringBuilder("(0");
        for (int p = 1; p < n; p++) {
            ring.append(' ').append(p);
        }
        return ring.append(')').toString();
    }

    /** The puzzle that a cycle of all places and a change of the first two make: it has all n! arrangements. */
    static StickerFoundry all(int n) {
        return n == 1 ? Foundries.puzzle(1, "(0)") : Foundries.puzzle(n, ring(n), "(0 1)");
    }
}
