/** Makes rows for the tests. */
final class Rows {
    private Rows() {
    }

    static TwistedRow loaded(int places, String turns) {
        TwistedRow row = new TwistedRow();
        row.begin(places);
        if (!turns.isEmpty()) {
            type(row, turns);
            row.load();
        }
        return row;
    }

    /** A square: move 0 turns it, 1 turns it back, 2 and 3 both turn it over. Its group has 8 arrangements. */
    static TwistedRow square() {
        return loaded(4, "3012;3210");
    }

    static void type(TwistedRow row, String text) {
        for (char code : text.toCharArray()) {
            row.append(code);
        }
    }

    static void arrange(TwistedRow row, String tiles) {
        for (int place = 0; place < tiles.length(); place++) {
            int from = place;
            while (row.tile(from) != tiles.charAt(place) - '0') {
                from++;
            }
            row.exchange(place, from);
        }
    }

    static String tiles(TwistedRow row) {
        StringBuilder tiles = new StringBuilder();
        for (int place = 0; place < row.count(0); place++) {
            tiles.append(row.tile(place));
        }
        return tiles.toString();
    }

    static String sources(TwistedRow row, int move) {
        StringBuilder sources = new StringBuilder();
        for (int place = 0; place < row.count(0); place++) {
            sources.append(row.source(move, place));
        }
        return sources.toString();
    }

    static String word(TwistedRow row) {
        StringBuilder word = new StringBuilder();
        for (int place = 0; row.wordMove(place) != TwistedRow.NONE; place++) {
            word.append(row.wordMove(place)).append(' ');
        }
        return word.toString().trim();
    }
}
