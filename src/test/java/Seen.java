/** All that can be seen of a foundry, as a text; to look changes nothing and takes some 200 calls. */
final class Seen {
    private Seen() {
    }

    static String all(StickerFoundry x) {
        int stickers = stickers(x);
        StringBuilder seen = new StringBuilder();
        seen.append(stickers).append(" stickers at ").append(Foundries.places(x, stickers));
        for (int t = 0; t < x.turns(); t++) {
            seen.append("turn ").append(images(x, t, stickers));
        }
        seen.append("text [").append(Foundries.text(x)).append("] ");
        seen.append("solution ").append(Foundries.solution(x));
        seen.append("order ").append(x.order()).append(" orbits ");
        for (int k = 0; k < stickers; k++) {
            seen.append(x.orbit(k)).append(' ');
        }
        seen.append(x.reachable() ? "rank " + x.rank() : "not reachable");
        seen.append(" within ").append(x.within(4));
        seen.append(x.order() > 1500 ? "" : " diameter " + x.diameter() + " next " + x.atDistance(1));
        return seen.toString();
    }

    /** How many stickers there are: the first that there is not tells it. */
    static int stickers(StickerFoundry x) {
        int stickers = 0;
        while (stickers < 100 && hasSticker(x, stickers)) {
            stickers++;
        }
        return stickers;
    }

    static String images(StickerFoundry x, int turn, int places) {
        StringBuilder images = new StringBuilder();
        for (int p = 0; p < places; p++) {
            images.append(x.image(turn, p)).append(' ');
        }
        return images.toString();
    }

    private static boolean hasSticker(StickerFoundry x, int sticker) {
        return Expect.raisedBy(() -> x.place(sticker)).equals("nothing");
    }
}
