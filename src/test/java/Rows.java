/** Makes rows for the tests. */
final class Rows {
    private Rows() {
    }

    static TwistedRow loaded(int places, String turns) {
        TwistedRow row = new TwistedRow();
        row.begin(places);
        if (!turns.isEmpty()) {
            type(row, turns);
            row.load();
        }
        return row;
    }

    /** A square: move 0 turns it, 1 turns it back, 2 and 3 both turn it over. Its group has 8 arrangements. */
    static TwistedRow square() {
        return loaded(4, "3012;3210");
    }

    static void type(TwistedRow row, String text) {
        for (char code : text.toCharArray()) {
            row.append(code);
        }
    }

    static void arrange(TwistedRow row, String tiles) {
        for (int place = 0; place < tiles.length(); place++) {
            int from = place;
            while (row.tile(from) != tiles.charAt(place) - '0') {
                from++;
            }
            row.exchange(place, from);
        }
    }

    /** A row with so many places and turns, all of which exchange the first two tiles. */
    static TwistedRow withTurns(int places, int turns) {
        TwistedRow row = new TwistedRow();
        row.begin(places);
        for (int turn = 0; turn < turns; turn++) {
            row.addTurn(2, 0, 1);
        }
        return row;
    }

    /** A row in the midst of things: a move is forbidden, two moves solve it, a forbidden word is in the buffer. */
    static TwistedRow busy() {
        TwistedRow row = loaded(5, "20134;01243");
        row.allow(0b0111);
        row.exchange(3, 4);
        row.make(0);
        type(row, "aB");
        return row;
    }

    /** A row with all 6 turns, each another one, of which two moves are forbidden, and a word in the buffer. */
    static TwistedRow crowded(int places) {
        TwistedRow row = new TwistedRow();
        row.begin(places);
        row.addTurn(1, 0, places - 1);
        row.addTurn(0, 0, places - 1);
        row.addTurn(2, 0, 1);
        row.addTurn(2, places - 2, places - 1);
        row.addTurn(1, 0, 1);
        row.addTurn(0, 1, places - 1);
        row.allow(0b011111111110);
        row.exchange(0, 2);
        type(row, "bE");
        return row;
    }

    /** A row that its moves cannot solve, with a full buffer. */
    static TwistedRow full() {
        TwistedRow row = loaded(4, "3012;3210");
        row.exchange(0, 1);
        fill(row, "a", 60);
        return row;
    }

    static void fill(TwistedRow row, String with, int times) {
        for (int i = 0; i < times; i++) {
            type(row, with);
        }
    }

    static String tiles(TwistedRow row) {
        StringBuilder tiles = new StringBuilder();
        int places = row.count(0);
        for (int place = 0; place < places; place++) {
            tiles.append(row.tile(place));
        }
        return tiles.toString();
    }

    static String sources(TwistedRow row, int move) {
        StringBuilder sources = new StringBuilder();
        int places = row.count(0);
        for (int place = 0; place < places; place++) {
            sources.append(row.source(move, place));
        }
        return sources.toString();
    }

    /** The moves of the first shortest word, which is shorter than 100 in all tests. */
    static String word(TwistedRow row) {
        StringBuilder word = new StringBuilder();
        int move = row.wordMove(0);
        for (int place = 1; move != TwistedRow.NONE && place <= 100; place++) {
            word.append(move).append(' ');
            move = row.wordMove(place);
        }
        return word.toString().trim();
    }

    /** All that can be seen of a row, by some 250 calls at the most, none of which changes it. */
    static String everything(TwistedRow row) {
        StringBuilder all = new StringBuilder("tiles " + tiles(row) + " counts");
        for (int what = 0; what <= 4; what++) {
            all.append(' ').append(row.count(what));
        }
        int allowed = row.count(2);
        int moves = 2 * row.count(1);
        all.append(" ifForbidden and sources");
        for (int move = 0; move < moves; move++) {
            if ((allowed >> move & 1) == 1) {
                all.append(' ').append(row.ifForbidden(move, 0)).append('/').append(row.ifForbidden(move, 1));
            }
            all.append(' ').append(sources(row, move));
        }
        for (int what = 0; what <= 2; what++) {
            all.append(" phase ").append(row.phase(0, what)).append(' ').append(row.phase(allowed, what));
        }
        return all + everythingOfTheGroup(row);
    }

    private static String everythingOfTheGroup(TwistedRow row) {
        StringBuilder all = new StringBuilder(" group");
        for (int what = 0; what <= 3; what++) {
            all.append(' ').append(row.group(what));
        }
        int places = row.count(0);
        for (int place = 0; place < places; place++) {
            all.append(" orbit ").append(row.basicOrbit(place));
        }
        for (int length = -1; length <= 10; length++) {
            all.append(" layer ").append(row.layer(length));
        }
        all.append(" length ").append(row.length()).append(" words ").append(row.words());
        all.append(" word ").append(word(row)).append(" mean ").append(row.meanLength());
        all.append(" errors ").append(row.firstError(true)).append(' ').append(row.firstError(false));
        return all.append(" digest ").append(row.digest()).toString();
    }
}
