/** Promises 1 to 8: the row. */
public final class RowTest {
    private static final Class<? extends RuntimeException> INDEX = IndexOutOfBoundsException.class;
    private static final Class<? extends RuntimeException> ARGUMENT = IllegalArgumentException.class;
    private static final Class<? extends RuntimeException> STATE = IllegalStateException.class;

    private static void promise1NewObject() {
        TwistedRow row = new TwistedRow();
        Check.due("1: NONE", -1, () -> TwistedRow.NONE);
        Check.due("1: the places", 5, () -> row.count(0));
        Check.due("1: the turns", 0, () -> row.count(1));
        Check.due("1: the allowed moves", 0, () -> row.count(2));
        Check.due("1: the tiles", "01234", () -> Rows.tiles(row));
        Check.due("1: the length", 0, row::length);
        Check.due("1: the buffer", 0, row::clearInput);
        Check.due("1: no more than 5 places", INDEX, () -> row.tile(5));
        TwistedRow turned = new TwistedRow();
        turned.addTurn(1, 0, 4);
        turned.addTurn(2, 0, 1);
        Check.due("1: ready for turns", 120, () -> turned.group(0));
        turned.exchange(0, 1);
        Check.due("1: ready for words", 1, turned::length);
        TwistedRow other = new TwistedRow();
        other.begin(3);
        Check.due("1: objects share nothing", 5, () -> row.count(0));
    }

    private static void promise2Begin() {
        TwistedRow row = new TwistedRow();
        row.addTurn(1, 0, 4);
        row.exchange(0, 2);
        Rows.type(row, "aA");
        for (int places : new int[] {2, 9, 0, -1, Integer.MIN_VALUE, Integer.MAX_VALUE}) {
            Check.refused(row, "2: begin " + places, ARGUMENT, () -> row.begin(places));
        }
        Check.due("2: the places before", 5, () -> row.begin(3));
        Check.due("2: the tiles of 3", "012", () -> Rows.tiles(row));
        Check.due("2: no turns", 0, () -> row.count(1));
        Check.due("2: no allowed moves", 0, () -> row.count(2));
        Check.due("2: no moves", INDEX, () -> row.source(0, 0));
        Check.due("2: the group of no moves", 1, () -> row.group(0));
        Check.due("2: 3 before 8", 3, () -> row.begin(8));
        row.exchange(6, 7);
        Check.due("2: the tiles of 8", "01234576", () -> Rows.tiles(row));
        Check.due("2: 8 before 8", 8, () -> row.begin(8));
        Check.due("2: solved anew", "01234567", () -> Rows.tiles(row));
        for (int places = 7; places >= 4; places--) {
            int next = places;
            Check.due("2: before " + places, places + 1, () -> row.begin(next));
        }
        Check.due("2: the buffer stays", 2, row::clearInput);
    }

    private static void promise2BeginForgetsTheGroup() {
        TwistedRow row = Rows.square();
        Check.due("2: a group", 8, () -> row.group(0));
        row.begin(4);
        row.addTurn(2, 0, 1);
        row.addTurn(2, 2, 3);
        Check.due("2: another group of as many moves", 4, () -> row.group(0));
        row.begin(6);
        row.addTurn(1, 0, 5);
        row.addTurn(2, 0, 1);
        Check.due("2: a greater group", 720, () -> row.group(0));
        row.begin(3);
        row.addTurn(1, 0, 2);
        row.addTurn(2, 0, 1);
        Check.due("2: a smaller group", 6, () -> row.group(0));
        row.begin(3);
        Check.due("2: solved, without moves", 0, row::length);
        row.begin(5);
        row.exchange(0, 1);
        Check.due("2: not to be solved without moves", -1, row::length);
        Check.due("2: the group of no moves then", 1, () -> row.group(0));
    }

    private static void promise3AddTurn() {
        TwistedRow row = new TwistedRow();
        row.exchange(0, 4);
        Check.due("3: the first turn", 0, () -> row.addTurn(0, 1, 4));
        Check.due("3: reversed", "04321", () -> Rows.sources(row, 0));
        Check.due("3: reversed back", "04321", () -> Rows.sources(row, 1));
        Check.due("3: the second turn", 1, () -> row.addTurn(1, 1, 3));
        Check.due("3: moved on", "03124", () -> Rows.sources(row, 2));
        Check.due("3: moved on, back", "02314", () -> Rows.sources(row, 3));
        Check.due("3: the third turn", 2, () -> row.addTurn(2, 0, 3));
        Check.due("3: exchanged", "31204", () -> Rows.sources(row, 4));
        Check.due("3: exchanged back", "31204", () -> Rows.sources(row, 5));
        Check.due("3: all are allowed", 63, () -> row.count(2));
        Check.due("3: the tiles stay", "41230", () -> Rows.tiles(row));
        row.allow(1);
        row.addTurn(0, 0, 1);
        Check.due("3: just the new ones are allowed", 0b11000001, () -> row.count(2));
    }

    private static void promise3AddTurnRefuses() {
        TwistedRow row = new TwistedRow();
        refusedTurns(row);
        Check.due("3: still no turn", 0, () -> row.count(1));
        for (int turn = 0; turn < 6; turn++) {
            int next = turn;
            Check.due("3: turn " + turn, next, () -> row.addTurn(1, 0, 1));
        }
        Check.refused(row, "3: a seventh turn", STATE, () -> row.addTurn(1, 0, 1));
        refusedTurns(row);
        Check.due("3: six turns", 6, () -> row.count(1));
        Check.due("3: twelve moves", 4095, () -> row.count(2));
    }

    private static void refusedTurns(TwistedRow row) {
        Check.refused(row, "3: first -1", INDEX, () -> row.addTurn(0, -1, 3));
        Check.refused(row, "3: last 5", INDEX, () -> row.addTurn(0, 0, 5));
        Check.refused(row, "3: first 5", INDEX, () -> row.addTurn(0, 5, 3));
        Check.refused(row, "3: last -1", INDEX, () -> row.addTurn(0, 3, -1));
        Check.refused(row, "3: first far off", INDEX, () -> row.addTurn(7, Integer.MIN_VALUE, Integer.MAX_VALUE));
        Check.refused(row, "3: kind and last", INDEX, () -> row.addTurn(3, 0, 5));
        Check.refused(row, "3: kind 3", ARGUMENT, () -> row.addTurn(3, 0, 1));
        Check.refused(row, "3: kind -1", ARGUMENT, () -> row.addTurn(-1, 0, 1));
        Check.refused(row, "3: last is first", ARGUMENT, () -> row.addTurn(0, 2, 2));
        Check.refused(row, "3: last below first", ARGUMENT, () -> row.addTurn(0, 2, 1));
    }

    private static void promise4DropTurn() {
        TwistedRow row = Rows.square();
        row.addTurn(2, 0, 1);
        row.exchange(0, 3);
        Check.due("4: a group of three turns", 24, () -> row.group(0));
        Check.due("4: two are left", 2, row::dropTurn);
        Check.due("4: its moves are gone", 15, () -> row.count(2));
        Check.due("4: they do not exist", INDEX, () -> row.make(4));
        Check.due("4: the tiles stay", "3120", () -> Rows.tiles(row));
        Check.due("4: the group of two turns", 8, () -> row.group(0));
        row.allow(4);
        Check.due("4: one is left", 1, row::dropTurn);
        Check.due("4: no move is allowed", 0, () -> row.count(2));
        row.addTurn(2, 0, 1);
        Check.due("4: a new one is allowed", 12, () -> row.count(2));
        Check.due("4: the new one's group", 2, () -> row.group(0));
        row.dropTurn();
        row.addTurn(1, 0, 2);
        Check.due("4: another in its place", 3, () -> row.group(0));
        Check.due("4: the first one stays", "3012", () -> Rows.sources(row, 0));
        row.dropTurn();
        Check.due("4: none is left", 0, row::dropTurn);
        Check.refused(row, "4: none to drop", STATE, row::dropTurn);
    }

    private static void promise5Allow() {
        TwistedRow row = Rows.square();
        Check.due("5: all before", 15, () -> row.allow(1));
        Check.due("5: one turn's group", 4, () -> row.group(0));
        Check.due("5: another is forbidden", STATE, () -> row.make(1));
        Check.due("5: one before", 1, () -> row.allow(12));
        Check.due("5: the group of the others", 2, () -> row.group(0));
        Check.due("5: some before", 12, () -> row.allow(0));
        Check.due("5: the group of none", 1, () -> row.group(0));
        Check.refused(row, "5: bit 4", ARGUMENT, () -> row.allow(16));
        Check.refused(row, "5: bit 4 and others", ARGUMENT, () -> row.allow(31));
        Check.refused(row, "5: -1", ARGUMENT, () -> row.allow(-1));
        Check.refused(row, "5: the least number", ARGUMENT, () -> row.allow(Integer.MIN_VALUE));
        Check.refused(row, "5: bit 30", ARGUMENT, () -> row.allow(1 << 30));
        Check.due("5: none before", 0, () -> row.allow(15));
        Check.due("5: all again", 8, () -> row.group(0));
        TwistedRow empty = new TwistedRow();
        Check.refused(empty, "5: no turns", ARGUMENT, () -> empty.allow(1));
        Check.due("5: no turns, no moves", 0, () -> empty.allow(0));
    }

    private static void promise6Exchange() {
        TwistedRow row = new TwistedRow();
        Check.due("6: exchanged", 3, () -> row.exchange(1, 3));
        Check.due("6: the tiles", "03214", () -> Rows.tiles(row));
        Check.due("6: exchanged again", 0, () -> row.exchange(3, 0));
        Check.due("6: the tiles then", "13204", () -> Rows.tiles(row));
        Check.due("6: the same place", 3, () -> row.exchange(1, 1));
        Check.due("6: the tiles stay", "13204", () -> Rows.tiles(row));
        for (int place : new int[] {-1, 5, Integer.MIN_VALUE, Integer.MAX_VALUE}) {
            Check.refused(row, "6: one " + place, INDEX, () -> row.exchange(place, 0));
            Check.refused(row, "6: other " + place, INDEX, () -> row.exchange(0, place));
        }
    }

    private static void promise7Make() {
        TwistedRow row = Rows.loaded(5, "30124;01234;10243");
        Check.due("7: four tiles", 4, () -> row.make(0));
        Check.due("7: the tiles", "30124", () -> Rows.tiles(row));
        Check.due("7: from there", 4, () -> row.make(4));
        Check.due("7: the tiles then", "03142", () -> Rows.tiles(row));
        Check.due("7: backwards", 4, () -> row.make(1));
        Check.due("7: the tiles behind it", "31402", () -> Rows.tiles(row));
        Check.due("7: no tile", 0, () -> row.make(2));
        Check.due("7: no tile backwards", 0, () -> row.make(3));
        Check.due("7: the tiles stay", "31402", () -> Rows.tiles(row));
        row.allow(62);
        Check.refused(row, "7: forbidden", STATE, () -> row.make(0));
        for (int move : new int[] {-1, 6, 32, Integer.MIN_VALUE, Integer.MAX_VALUE}) {
            Check.refused(row, "7: move " + move, INDEX, () -> row.make(move));
        }
    }

    private static void promise8Solve() {
        TwistedRow row = Rows.square();
        Rows.type(row, "ab");
        Check.due("8: solved already", 0, row::solve);
        Rows.arrange(row, "2301");
        Check.due("8: two moves", 2, row::solve);
        Check.due("8: it is solved", "0123", () -> Rows.tiles(row));
        Rows.arrange(row, "1032");
        Check.due("8: three moves", 3, row::solve);
        Check.due("8: it is solved again", "0123", () -> Rows.tiles(row));
        row.exchange(0, 1);
        long before = row.digest();
        Check.due("8: no word solves it", -1, row::solve);
        Check.due("8: nothing is changed", before, row::digest);
        Rows.arrange(row, "1230");
        row.allow(2);
        Check.due("8: only the long way", 3, row::solve);
        Check.due("8: the buffer stays", 2, row::clearInput);
    }

    public static void main(String[] args) {
        promise1NewObject();
        promise2Begin();
        promise2BeginForgetsTheGroup();
        promise3AddTurn();
        promise3AddTurnRefuses();
        promise4DropTurn();
        promise5Allow();
        promise6Exchange();
        promise7Make();
        promise8Solve();
        Check.finish();
    }
}
