/** Row puzzles with turns that permute the tiles of a row, as ../shared/DOC.md promises them. */
public final class TwistedRow {
    public static final int NONE = -1;

    private static final int MIN_PLACES = 3;
    private static final int MAX_PLACES = 8;
    private static final int FIRST_PLACES = 5;
    private static final int MAX_TURNS = 6;
    private static final int MAX_MOVES = 12;
    private static final int MAX_INPUT = 60;
    private static final int SOLVED = 0;
    private static final int[] FACTORIALS = {1, 1, 2, 6, 24, 120, 720, 5040, 40320};

    private final int[] tiles;
    private final int[] scratch;
    private final int[] wordRow;
    private final int[][] sources;
    private final char[] input;
    private int places;
    private int turns;
    private int allowed;
    private int inputLength;
    private Graph graph;

    public TwistedRow() {
        tiles = new int[MAX_PLACES];
        scratch = new int[MAX_PLACES];
        wordRow = new int[MAX_PLACES];
        sources = new int[MAX_MOVES][MAX_PLACES];
        input = new char[MAX_INPUT];
        places = FIRST_PLACES;
        graph = new Graph(FIRST_PLACES);
        setSolved(tiles, FIRST_PLACES);
    }

    // ---- the row

    public int begin(int places) throws IllegalArgumentException {
        if (places < MIN_PLACES || places > MAX_PLACES) {
            throw new IllegalArgumentException("places is out of range");
        }
        int previous = this.places;
        this.places = places;
        turns = 0;
        allowed = 0;
        setSolved(tiles, places);
        if (graph.room < FACTORIALS[places]) {
            graph = new Graph(places);
        }
        graph.setPlaces(places);
        return previous;
    }

    public int addTurn(int kind, int first, int last)
            throws IndexOutOfBoundsException, IllegalArgumentException, IllegalStateException {
        if (!isPlace(first) || !isPlace(last)) {
            throw new IndexOutOfBoundsException("one of the places does not exist");
        }
        if (kind < 0 || kind > 2 || last <= first) {
            throw new IllegalArgumentException("kind is not 0 to 2, or last is not greater than first");
        }
        if (turns >= MAX_TURNS) {
            throw new IllegalStateException("there are 6 turns");
        }
        for (int place = 0; place < places; place++) {
            boolean stays = place < first || place > last;
            setSource(place, stays ? place : sourceByKind(kind, first, last, place));
        }
        finishTurn();
        return turns - 1;
    }

    public int dropTurn() throws IllegalStateException {
        if (turns <= 0) {
            throw new IllegalStateException("there are no turns");
        }
        turns--;
        allowed &= (1 << (2 * turns)) - 1;
        return turns;
    }

    public int allow(int moves) throws IllegalArgumentException {
        if (moves < 0 || (moves >> (2 * turns)) != 0) {
            throw new IllegalArgumentException("moves is negative, or has a bit that stands for no move");
        }
        int previous = allowed;
        allowed = moves;
        return previous;
    }

    public int exchange(int one, int other) throws IndexOutOfBoundsException {
        if (!isPlace(one) || !isPlace(other)) {
            throw new IndexOutOfBoundsException("one of the places does not exist");
        }
        int tile = tiles[one];
        tiles[one] = tiles[other];
        tiles[other] = tile;
        return tiles[one];
    }

    public int make(int move) throws IndexOutOfBoundsException, IllegalStateException {
        if (!isMove(move)) {
            throw new IndexOutOfBoundsException("the move does not exist");
        }
        if (!isAllowed(move)) {
            throw new IllegalStateException("the move is forbidden");
        }
        carryOut(move, tiles);
        int moved = 0;
        for (int place = 0; place < places; place++) {
            if (sources[move][place] != place) {
                moved++;
            }
        }
        return moved;
    }

    public int solve() {
        int moves = length();
        if (moves != NONE) {
            setSolved(tiles, places);
        }
        return moves;
    }

    // ---- input

    public int append(int code) throws IllegalArgumentException, IllegalStateException {
        if (code < 32 || code > 126) {
            throw new IllegalArgumentException("code is not 32 to 126");
        }
        if (inputLength >= MAX_INPUT) {
            throw new IllegalStateException("the buffer has 60 characters");
        }
        input[inputLength] = (char) code;
        inputLength++;
        return inputLength;
    }

    public int clearInput() {
        int had = inputLength;
        inputLength = 0;
        return had;
    }

    public int firstError(boolean word) {
        return word ? firstWordError() : firstTurnError();
    }

    public int load() throws IllegalArgumentException {
        if (!isTextOfTurns()) {
            throw new IllegalArgumentException("the buffer is not a text of turns");
        }
        int place = 0;
        for (int i = 0; i < inputLength; i++) {
            if (input[i] == ';') {
                place = 0;
            } else {
                setSource(place, input[i] - '0');
                place++;
                if (place == places) {
                    finishTurn();
                }
            }
        }
        inputLength = 0;
        return turns;
    }

    public int run() throws IllegalArgumentException, IllegalStateException {
        if (!isWord()) {
            throw new IllegalArgumentException("the buffer is not a word");
        }
        for (int i = 0; i < inputLength; i++) {
            if (!isAllowed(moveOfLetter(input[i]))) {
                throw new IllegalStateException("one of the moves is forbidden");
            }
        }
        carryOutInput(tiles);
        return clearInput();
    }

    public int order() throws IllegalArgumentException {
        if (!isWord()) {
            throw new IllegalArgumentException("the buffer is not a word");
        }
        setSolved(wordRow, places);
        carryOutInput(wordRow);
        int times = 1;
        while (times < FACTORIALS[places] && fixedPlaces(wordRow) < places) {
            carryOutInput(wordRow);
            times++;
        }
        return times;
    }

    // ---- the group

    public int group(int what) throws IllegalArgumentException {
        if (what < 0 || what > 3) {
            throw new IllegalArgumentException("what is not 0 to 3");
        }
        if (what == 0) {
            return solutions().total;
        }
        if (what == 1) {
            return countOrbits();
        }
        if (what == 2) {
            return solutions().greatestLength();
        }
        return countEvenArrangements();
    }

    public int basicOrbit(int place) throws IndexOutOfBoundsException {
        if (!isPlace(place)) {
            throw new IndexOutOfBoundsException("the place does not exist");
        }
        // The codes are in the order of the tiles' places: those below (places - place)! are
        // the ones whose lower tiles are at home, and each further block of (places - 1 - place)!
        // codes has the tile one place further.
        Search known = solutions();
        int block = FACTORIALS[places - 1 - place];
        int orbit = 0;
        for (int at = place; at < places; at++) {
            if (known.hasBetween((at - place) * block, (at - place + 1) * block)) {
                orbit |= 1 << at;
            }
        }
        return orbit;
    }

    public int layer(int length) {
        return solutions().countOfLength(length);
    }

    // ---- words

    public int length() {
        return solutions().lengths[presentCode()];
    }

    public int wordMove(int place) {
        Search known = solutions();
        int code = presentCode();
        if (place < 0 || place >= known.lengths[code]) {
            return NONE;
        }
        int move = known.firstMove(graph, code);
        for (int i = 0; i < place && move != NONE; i++) {
            code = graph.ends[move][code];
            move = known.firstMove(graph, code);
        }
        return move;
    }

    public long words() {
        Search known = solutions();
        int code = presentCode();
        return known.lengths[code] == NONE ? 0L : known.countWords(graph, code);
    }

    public int phase(int moves, int what) throws IllegalArgumentException {
        if (moves < 0 || (moves & ~allowed) != 0 || what < 0 || what > 2) {
            throw new IllegalArgumentException("moves or what is out of range");
        }
        int code = presentCode();
        if (solutions().lengths[code] == NONE) {
            return NONE;
        }
        Search subgroup = solutionsOfOthers(moves);
        int end = graph.route.findNearest(graph, allowed, code, subgroup);
        if (end == NONE) {
            return NONE;
        }
        int first = graph.route.lengths[end];
        int second = subgroup.lengths[end];
        if (what == 2) {
            return first + second;
        }
        return what == 0 ? first : second;
    }

    public int ifForbidden(int move, int what)
            throws IndexOutOfBoundsException, IllegalArgumentException, IllegalStateException {
        if (!isMove(move)) {
            throw new IndexOutOfBoundsException("the move does not exist");
        }
        if (what < 0 || what > 1) {
            throw new IllegalArgumentException("what is not 0 or 1");
        }
        if (!isAllowed(move)) {
            throw new IllegalStateException("the move is forbidden already");
        }
        Search known = solutionsOfOthers(allowed & ~(1 << move));
        return what == 0 ? known.total : known.lengths[presentCode()];
    }

    // ---- what there is

    public int tile(int place) throws IndexOutOfBoundsException {
        if (!isPlace(place)) {
            throw new IndexOutOfBoundsException("the place does not exist");
        }
        return tiles[place];
    }

    public int source(int move, int place) throws IndexOutOfBoundsException {
        if (!isMove(move) || !isPlace(place)) {
            throw new IndexOutOfBoundsException("the move or the place does not exist");
        }
        return sources[move][place];
    }

    public boolean commute(int one, int other) throws IndexOutOfBoundsException {
        if (!isMove(one) || !isMove(other)) {
            throw new IndexOutOfBoundsException("one of the moves does not exist");
        }
        for (int place = 0; place < places; place++) {
            if (sources[one][sources[other][place]] != sources[other][sources[one][place]]) {
                return false;
            }
        }
        return true;
    }

    public int count(int what) throws IllegalArgumentException {
        if (what < 0 || what > 4) {
            throw new IllegalArgumentException("what is not 0 to 4");
        }
        if (what == 0) {
            return places;
        }
        if (what == 1) {
            return turns;
        }
        if (what == 2) {
            return allowed;
        }
        if (what == 3) {
            return fixedPlaces(tiles);
        }
        return isEven(tiles) ? 1 : 0;
    }

    public double meanLength() {
        Search known = solutions();
        // The solved row is always in the group; the test only shows that nothing divides by 0.
        return known.total > 0 ? (double) known.sumOfLengths() / (double) known.total : 0.0;
    }

    public long digest() {
        long hash = 2011L;
        for (int what = 0; what <= 4; what++) {
            hash = 31L * hash + count(what);
        }
        hash = mixRow(hash);
        hash = mixGroup(hash);
        hash = mixWord(hash);
        hash = 31L * hash + bitsOf(meanLength());
        hash = 31L * hash + inputLength;
        for (int i = 0; i < inputLength; i++) {
            hash = 31L * hash + input[i];
        }
        return hash;
    }

    private long mixRow(long before) {
        long hash = before;
        for (int place = 0; place < places; place++) {
            hash = 31L * hash + tiles[place];
        }
        for (int move = 0; move < 2 * turns; move++) {
            for (int place = 0; place < places; place++) {
                hash = 31L * hash + sources[move][place];
            }
        }
        return hash;
    }

    private long mixGroup(long before) {
        long hash = before;
        for (int what = 0; what <= 3; what++) {
            hash = 31L * hash + group(what);
        }
        for (int place = 0; place < places; place++) {
            hash = 31L * hash + basicOrbit(place);
        }
        for (int moves = 0; moves <= 9; moves++) {
            hash = 31L * hash + layer(moves);
        }
        return hash;
    }

    private long mixWord(long before) {
        int moves = length();
        long hash = 31L * before + moves;
        hash = 31L * hash + words();
        for (int i = 0; i < moves; i++) {
            hash = 31L * hash + wordMove(i);
        }
        return hash;
    }

    /** What Double.doubleToLongBits answers for a mean length, which the language's rules leave out. */
    private static long bitsOf(double mean) {
        if (!(mean > 0.0)) {
            return 0L;
        }
        double part = mean;
        long exponent = 1023L;
        for (int i = 0; i < 64 && part >= 2.0; i++) {
            part = part / 2.0;
            exponent++;
        }
        for (int i = 0; i < 64 && part < 1.0; i++) {
            part = part * 2.0;
            exponent--;
        }
        return (exponent << 52) + (long) ((part - 1.0) * (double) (1L << 52));
    }

    private boolean isPlace(int place) {
        return place >= 0 && place < places;
    }

    private boolean isMove(int move) {
        return move >= 0 && move < 2 * turns;
    }

    private boolean isAllowed(int move) {
        return isMove(move) && (allowed & (1 << move)) != 0;
    }

    private static void setSolved(int[] row, int size) {
        for (int place = 0; place < size; place++) {
            row[place] = place;
        }
    }

    private static int sourceByKind(int kind, int first, int last, int place) {
        if (kind == 0) {
            return first + last - place;
        }
        if (kind == 1) {
            return place == first ? last : place - 1;
        }
        if (place == first) {
            return last;
        }
        return place == last ? first : place;
    }

    /** Writes a place of the turn that comes next, for both of its moves. */
    private void setSource(int place, int from) {
        sources[2 * turns][place] = from;
        sources[2 * turns + 1][from] = place;
    }

    private void finishTurn() {
        graph.linkTurn(turns, sources[2 * turns + 1]);
        allowed |= 3 << (2 * turns);
        turns++;
    }

    private void carryOut(int move, int[] row) {
        for (int place = 0; place < places; place++) {
            scratch[place] = row[place];
        }
        for (int place = 0; place < places; place++) {
            row[place] = scratch[sources[move][place]];
        }
    }

    private void carryOutInput(int[] row) {
        for (int i = 0; i < inputLength; i++) {
            int move = moveOfLetter(input[i]);
            if (move != NONE) {
                carryOut(move, row);
            }
        }
    }

    private int fixedPlaces(int[] row) {
        int fixed = 0;
        for (int place = 0; place < places; place++) {
            if (row[place] == place) {
                fixed++;
            }
        }
        return fixed;
    }

    private boolean isEven(int[] row) {
        boolean even = true;
        for (int high = 1; high < places; high++) {
            for (int low = 0; low < high; low++) {
                if (row[low] > row[high]) {
                    even = !even;
                }
            }
        }
        return even;
    }

    private int moveOfLetter(char letter) {
        int forwards = letter - 'a';
        if (forwards >= 0 && forwards < turns) {
            return 2 * forwards;
        }
        int backwards = letter - 'A';
        return backwards >= 0 && backwards < turns ? 2 * backwards + 1 : NONE;
    }

    private int firstWordError() {
        for (int i = 0; i < inputLength; i++) {
            if (moveOfLetter(input[i]) == NONE) {
                return i;
            }
        }
        return inputLength;
    }

    private boolean isWord() {
        return inputLength > 0 && firstWordError() == inputLength;
    }

    private int firstTurnError() {
        int turnsSoFar = turns;
        int digits = 0;
        int used = 0;
        for (int i = 0; i < inputLength; i++) {
            if (digits == places) {
                if (input[i] != ';' || turnsSoFar == MAX_TURNS) {
                    return i;
                }
                digits = 0;
                used = 0;
            } else {
                int digit = input[i] - '0';
                if (!isPlace(digit) || turnsSoFar == MAX_TURNS || (used & (1 << digit)) != 0) {
                    return i;
                }
                used |= 1 << digit;
                digits++;
                if (digits == places) {
                    turnsSoFar++;
                }
            }
        }
        return inputLength;
    }

    private boolean isTextOfTurns() {
        int digits = 0;
        for (int i = 0; i < inputLength; i++) {
            digits = input[i] == ';' ? 0 : digits + 1;
        }
        return digits == places && firstTurnError() == inputLength;
    }

    private int countOrbits() {
        int seen = 0;
        int orbits = 0;
        for (int place = 0; place < places; place++) {
            if ((seen & (1 << place)) == 0) {
                seen |= orbitOf(place);
                orbits++;
            }
        }
        return orbits;
    }

    private int orbitOf(int place) {
        int orbit = 1 << place;
        // A tile that can come to a place at all comes there by fewer moves than there are places.
        for (int round = 1; round < places; round++) {
            for (int move = 0; move < 2 * turns; move++) {
                if (isAllowed(move)) {
                    orbit |= movedPlaces(move, orbit);
                }
            }
        }
        return orbit;
    }

    private int movedPlaces(int move, int from) {
        int moved = 0;
        for (int place = 0; place < places; place++) {
            if ((from & (1 << sources[move][place])) != 0) {
                moved |= 1 << place;
            }
        }
        return moved;
    }

    private int countEvenArrangements() {
        int all = solutions().total;
        for (int move = 0; move < 2 * turns; move++) {
            if (isAllowed(move) && !isEven(sources[move])) {
                // A group with an odd arrangement has as many odd ones as even ones.
                return all / 2;
            }
        }
        return all;
    }

    private Search solutions() {
        graph.solving.measure(graph, allowed);
        return graph.solving;
    }

    private Search solutionsOfOthers(int moves) {
        graph.others.measure(graph, moves);
        return graph.others;
    }

    private int presentCode() {
        for (int place = 0; place < places; place++) {
            scratch[tiles[place]] = place;
        }
        return codeOf(scratch, places);
    }

    /** The number of an order of the places of all tiles among all such orders, the least one first. */
    private static int codeOf(int[] spots, int size) {
        int free = (1 << size) - 1;
        int code = 0;
        for (int tile = 0; tile < size; tile++) {
            int spot = 1 << spots[tile];
            code = code * (size - tile) + Integer.bitCount(free & (spot - 1));
            free &= ~spot;
        }
        return code;
    }

    /** Which arrangement each move makes of which, all by their codes, and what was searched there. */
    private static final class Graph {
        final int room;
        final int[][] ends;
        final long[] ways;
        final int[] spots;
        final int[] moved;
        final Search solving;
        final Search others;
        final Search route;
        int places;
        int size;

        Graph(int mostPlaces) {
            room = FACTORIALS[mostPlaces];
            ends = new int[MAX_MOVES][room];
            ways = new long[room];
            spots = new int[MAX_PLACES];
            moved = new int[MAX_PLACES];
            solving = new Search(room);
            others = new Search(room);
            route = new Search(room);
            setPlaces(mostPlaces);
        }

        void setPlaces(int places) {
            this.places = places;
            size = FACTORIALS[places];
            forgetSearches();
        }

        void linkTurn(int turn, int[] targets) {
            int[] forwards = ends[2 * turn];
            int[] backwards = ends[2 * turn + 1];
            setSolved(spots, places);
            for (int code = 0; code < size; code++) {
                for (int tile = 0; tile < places; tile++) {
                    moved[tile] = targets[spots[tile]];
                }
                int end = codeOf(moved, places);
                forwards[code] = end;
                backwards[end] = code;
                advanceSpots();
            }
            forgetSearches();
        }

        private void forgetSearches() {
            solving.known = NONE;
            others.known = NONE;
        }

        /** Takes the spots to the next order, the one with the next code; the last one stays. */
        private void advanceSpots() {
            int pivot = places - 2;
            while (pivot >= 0 && spots[pivot] > spots[pivot + 1]) {
                pivot--;
            }
            if (pivot < 0) {
                return;
            }
            int next = places - 1;
            while (next > pivot && spots[next] < spots[pivot]) {
                next--;
            }
            swapSpots(pivot, next);
            int low = pivot + 1;
            int high = places - 1;
            while (low < high) {
                swapSpots(low, high);
                low++;
                high--;
            }
        }

        private void swapSpots(int one, int other) {
            int spot = spots[one];
            spots[one] = spots[other];
            spots[other] = spot;
        }
    }

    /** The arrangements found from one of them, in the order of their lengths. */
    private static final class Search {
        final int[] lengths;
        final int[] found;
        int total;
        int known;

        Search(int room) {
            lengths = new int[room];
            found = new int[room];
            known = NONE;
        }

        /** Finds the lengths of all arrangements that the moves can solve. */
        void measure(Graph graph, int moves) {
            if (known == moves) {
                return;
            }
            known = moves;
            startAt(SOLVED, graph.size);
            for (int i = 0; i < total && i < found.length; i++) {
                for (int move = 0; move < MAX_MOVES; move++) {
                    if ((moves & (1 << move)) != 0) {
                        // From the solved row one comes to what the move solves by undoing it,
                        // whether the inverse move is allowed or not.
                        reach(graph.ends[move ^ 1][found[i]], found[i]);
                    }
                }
            }
        }

        /**
         * Finds the first arrangement of the goals to which the moves take one. Arrangements are found
         * in the order of their first shortest words, so the first goal ends the first one of all.
         */
        int findNearest(Graph graph, int moves, int code, Search goals) {
            startAt(code, graph.size);
            for (int i = 0; i < total && i < found.length; i++) {
                if (goals.lengths[found[i]] != NONE) {
                    return found[i];
                }
                for (int move = 0; move < MAX_MOVES; move++) {
                    if ((moves & (1 << move)) != 0) {
                        reach(graph.ends[move][found[i]], found[i]);
                    }
                }
            }
            return NONE;
        }

        private void startAt(int code, int size) {
            for (int i = 0; i < size; i++) {
                lengths[i] = NONE;
            }
            lengths[code] = 0;
            found[0] = code;
            total = 1;
        }

        private void reach(int code, int from) {
            if (lengths[code] == NONE) {
                lengths[code] = lengths[from] + 1;
                found[total] = code;
                total++;
            }
        }

        /** The least move that leads nearer to the solved row. */
        int firstMove(Graph graph, int code) {
            for (int move = 0; move < MAX_MOVES; move++) {
                if (leadsNearer(graph, move, code)) {
                    return move;
                }
            }
            return NONE;
        }

        private boolean leadsNearer(Graph graph, int move, int code) {
            return (known & (1 << move)) != 0 && lengths[graph.ends[move][code]] == lengths[code] - 1;
        }

        /** Counts the shortest words of an arrangement that was found. */
        long countWords(Graph graph, int code) {
            graph.ways[SOLVED] = 1L;
            for (int i = 1; i < total; i++) {
                int here = found[i];
                graph.ways[here] = 0L;
                for (int move = 0; move < MAX_MOVES; move++) {
                    if (leadsNearer(graph, move, here)) {
                        graph.ways[here] += graph.ways[graph.ends[move][here]];
                    }
                }
                if (here == code) {
                    return graph.ways[here];
                }
            }
            return graph.ways[SOLVED];
        }

        boolean hasBetween(int from, int behind) {
            for (int code = from; code < behind; code++) {
                if (lengths[code] != NONE) {
                    return true;
                }
            }
            return false;
        }

        int countOfLength(int moves) {
            int counted = 0;
            for (int i = 0; i < total; i++) {
                if (lengths[found[i]] == moves) {
                    counted++;
                }
            }
            return counted;
        }

        int greatestLength() {
            return total > 0 ? lengths[found[total - 1]] : 0;
        }

        long sumOfLengths() {
            long sum = 0L;
            for (int i = 0; i < total; i++) {
                sum += lengths[found[i]];
            }
            return sum;
        }
    }
}
