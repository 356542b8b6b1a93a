/** Foundries made from, and told as, written texts. */
final class Foundries {
    private Foundries() {
    }

    static StickerFoundry puzzle(int stickers, String... turns) {
        StickerFoundry foundry = new StickerFoundry();
        Expect.yes("stickers(" + stickers + ")", foundry.stickers(stickers));
        for (int t = 0; t < turns.length; t++) {
            Expect.same("turn " + turns[t], addTurn(foundry, turns[t]), t);
        }
        return foundry;
    }

    static int addTurn(StickerFoundry foundry, String turn) {
        setText(foundry, turn);
        return foundry.turn();
    }

    static void setText(StickerFoundry foundry, String text) {
        foundry.cut(0);
        for (int i = 0; i < text.length(); i += 8) {
            String part = text.substring(i, Math.min(i + 8, text.length()));
            Expect.yes("type " + part, foundry.type(packed(part), part.length()));
        }
    }

    /** Characters as bytes of a number, the first in the lowest byte. */
    static long packed(String part) {
        long w = 0;
        for (int i = 0; i < part.length(); i++) {
            w |= (long) part.charAt(i) << (8 * i);
        }
        return w;
    }

    static String text(StickerFoundry foundry) {
        StringBuilder text = new StringBuilder();
        int sign = foundry.character(0);
        for (int i = 1; sign != 0 && i < 1000; i++) {
            text.append((char) sign);
            sign = foundry.character(i);
        }
        return text.toString();
    }

    /** The places of the stickers, with a space behind each. */
    static String places(StickerFoundry foundry, int stickers) {
        StringBuilder places = new StringBuilder();
        for (int s = 0; s < stickers; s++) {
            places.append(foundry.place(s)).append(' ');
        }
        return places.toString();
    }

    /** The moves of the solution found last, with a space behind each. */
    static String solution(StickerFoundry foundry) {
        StringBuilder moves = new StringBuilder();
        for (int i = 0; foundry.solution(i) != StickerFoundry.NONE && i < 2000; i++) {
            moves.append(foundry.solution(i)).append(' ');
        }
        return moves.toString();
    }
}
