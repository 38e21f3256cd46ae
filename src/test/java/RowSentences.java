import java.util.List;

/** The sentences of the promises 1 to 8: the row. */
final class RowSentences extends Sentences {
    static void all() {
        newObject();
        begin();
        addTurn();
        addTurnRefuses();
        dropTurn();
        allow();
        exchange();
        make();
        solve();
    }

    private static void newObject() {
        promise(1, "Creates a solved row", () -> {
            due("the tiles", "01234", () -> Rows.tiles(new TwistedRow()));
            due("the length", 0, () -> new TwistedRow().length());
        });
        promise(1, "with 5 places", () -> {
            due("the number", 5, () -> new TwistedRow().count(0));
            due("the last place", 4, () -> new TwistedRow().tile(4));
            refused("one more", INDEX, TwistedRow::new, row -> row.tile(5));
            due("what begin answers", 5, () -> new TwistedRow().begin(3));
        });
        promise(1, "and without turns", () -> {
            due("the number", 0, () -> new TwistedRow().count(1));
            due("the allowed moves", 0, () -> new TwistedRow().count(2));
            refused("one to drop", STATE, TwistedRow::new, TwistedRow::dropTurn);
            refused("a move", INDEX, TwistedRow::new, row -> row.make(0));
            due("the first one is 0", 0, () -> new TwistedRow().addTurn(2, 0, 1));
            due("there is room for six", 5, () -> new TwistedRow().addTurn(2, 0, 1) + Rows.withTurns(5, 5).addTurn(2, 0, 1));
        });
        promise(1, "the buffer is empty.", () -> {
            due("its length", 0, () -> new TwistedRow().clearInput());
            due("its first character", 1, () -> new TwistedRow().append(97));
            due("it has no error as a word", 0, () -> new TwistedRow().firstError(true));
            due("it has no error as turns", 0, () -> new TwistedRow().firstError(false));
        });
    }

    private static void begin() {
        promise(2, "Begins anew with a solved row", () -> {
            for (int places = 3; places <= 8; places++) {
                int next = places;
                TwistedRow row = Rows.crowded(places);
                due(places + " behind as many", places, () -> row.begin(next));
                due("the tiles of " + places, "01234567".substring(0, places), () -> Rows.tiles(row));
                TwistedRow other = Rows.busy();
                due(places + " behind 5", 5, () -> other.begin(next));
                due("the tiles of " + places + " behind 5", "01234567".substring(0, places), () -> Rows.tiles(other));
                due("solved, " + places, 0, other::length);
            }
        });
        promise(2, "without turns.", () -> {
            for (int places = 3; places <= 8; places++) {
                TwistedRow row = Rows.crowded(places);
                row.allow(4095);
                due("the group before", true, () -> row.group(0) > 2 && row.ifForbidden(0, 0) > 2);
                row.begin(places);
                due("the number", 0, () -> row.count(1));
                due("the allowed moves", 0, () -> row.count(2));
                due("the group", 1, () -> row.group(0));
                due("the moves", INDEX, () -> row.source(0, 0));
                due("none is to be dropped", STATE, row::dropTurn);
                for (int turn = 0; turn < 6; turn++) {
                    due("room for turn " + turn, turn, () -> row.addTurn(2, 0, 1));
                }
                due("no room for more", STATE, () -> row.addTurn(2, 0, 1));
                due("the new group", 2, () -> row.group(0));
                due("the new group without a move", 2, () -> row.ifForbidden(0, 0));
            }
        });
        promise(2, "The buffer stays.", () -> {
            for (String text : new String[] {"", "a", "0;~ "}) {
                TwistedRow row = new TwistedRow();
                Rows.type(row, text);
                row.begin(4);
                TwistedRow same = Rows.withTurns(4, 0);
                Rows.type(same, text);
                due("with " + text, same.digest(), row::digest);
                due("the length of " + text, text.length(), row::clearInput);
            }
            TwistedRow full = Rows.full();
            full.begin(8);
            due("a full one is full", STATE, () -> full.append(97));
            due("a full one has 60", 60, full::clearInput);
        });
        promise(2, "`places`: 3 to 8", () -> {
            for (int places = 3; places <= 8; places++) {
                int next = places;
                TwistedRow row = new TwistedRow();
                due(places + " is taken", 5, () -> row.begin(next));
                due("there are " + places, places, () -> row.count(0));
                due("the last of " + places, places - 1, () -> row.tile(next - 1));
                due("one behind the last of " + places, INDEX, () -> row.tile(next));
            }
        });
        promise(2, "Returns the previous number of places.", () -> {
            TwistedRow row = new TwistedRow();
            int before = 5;
            for (int places : new int[] {3, 3, 8, 8, 3, 8, 4, 7, 5, 6, 6}) {
                due("in front of " + places, before, () -> row.begin(places));
                due("solved, of " + places, "01234567".substring(0, places), () -> Rows.tiles(row));
                row.exchange(0, places - 1);
                before = places;
            }
        });
        promise(2, "Throws `IllegalArgumentException` if places is out of range", () -> {
            for (int places : new int[] {2, 9, 1, 0, -1, -3, -8, 10, 259, LEAST, GREATEST}) {
                refused(places + " places", ARGUMENT, Rows::busy, row -> row.begin(places));
                refused(places + " places, behind six turns", ARGUMENT, () -> Rows.crowded(8), row -> row.begin(places));
            }
        });
    }

    /** What a turn of a kind makes of the numbers of all places, cut and joined from the document's words. */
    private static String turned(int places, int kind, int first, int last) {
        String all = "01234567".substring(0, places);
        String part = all.substring(first, last + 1);
        String inner = all.substring(first + 1, last);
        List<String> parts = List.of(new StringBuilder(part).reverse().toString(),
            all.charAt(last) + all.substring(first, last), all.charAt(last) + inner + all.charAt(first));
        return all.substring(0, first) + parts.get(kind) + all.substring(last + 1);
    }

    private static void addTurn() {
        promise(3, "Adds a turn of the places from one to another, of a kind.", () -> {
            for (int places = 3; places <= 8; places++) {
                for (int first = 0; first < places; first++) {
                    for (int last = first + 1; last < places; last++) {
                        allKinds(places, first, last);
                    }
                }
            }
            TwistedRow row = Rows.busy();
            String before = Rows.tiles(row);
            row.addTurn(1, 0, 4);
            due("the tiles stay", before, () -> Rows.tiles(row));
            due("the moves forbidden before stay so", 0b110111, () -> row.count(2));
            due("the turns before stay", "20134", () -> Rows.sources(row, 0));
            due("the buffer stays", 2, row::clearInput);
        });
        promise(3, "`kind`: 0: they are reversed (s(first + i) is last - i)", () -> {
            due("two of them", "01243", () -> added(0, 3, 4));
            due("three of them", "03214", () -> added(0, 1, 3));
            due("all of them", "43210", () -> added(0, 0, 4));
        });
        promise(3, "1: their tiles move on by one place, the one at the last place comes to the first one", () -> {
            due("two of them", "10234", () -> added(1, 0, 1));
            due("three of them", "03124", () -> added(1, 1, 3));
            due("all of them", "40123", () -> added(1, 0, 4));
            TwistedRow row = new TwistedRow();
            row.addTurn(1, 1, 4);
            row.make(0);
            due("the tile of the last place", 4, () -> row.tile(1));
            due("a tile moved on by one place", 1, () -> row.tile(2));
        });
        promise(3, "2: the tiles of the first and of the last place are exchanged", () -> {
            due("beside one another", "02134", () -> added(2, 1, 2));
            due("two apart", "03214", () -> added(2, 1, 3));
            due("far apart", "41230", () -> added(2, 0, 4));
        });
        promise(3, "other places stay", () -> {
            for (int kind = 0; kind <= 2; kind++) {
                int next = kind;
                due("in front and behind, kind " + kind, "01324", () -> added(next, 2, 3));
            }
            due("between the exchanged ones", "04231", () -> added(2, 1, 4));
        });
        promise(3, "`first`: the first place", () -> {
            due("the least one", "10234", () -> added(1, 0, 1));
            due("the greatest one that has one behind it", "01243", () -> added(1, 3, 4));
        });
        promise(3, "`last`: the last place, greater than first", () -> {
            for (int first = 0; first < 5; first++) {
                int next = first;
                for (int kind = 0; kind <= 2; kind++) {
                    int other = kind;
                    if (first < 4) {
                        due("by one, " + first, 0, () -> new TwistedRow().addTurn(other, next, next + 1));
                    }
                    refused("not at all, " + first, ARGUMENT, Rows::busy, row -> row.addTurn(other, next, next));
                }
            }
            due("up to the last of 8 places", 0, () -> Rows.withTurns(8, 0).addTurn(0, 0, 7));
        });
        promise(3, "Returns the number of the turn.", () -> {
            TwistedRow row = new TwistedRow();
            for (int turn = 0; turn < 6; turn++) {
                due("turn " + turn, turn, () -> row.addTurn(0, 0, 4));
            }
            row.dropTurn();
            row.dropTurn();
            due("behind four that are left", 4, () -> row.addTurn(1, 0, 4));
            row.begin(3);
            due("behind begin", 0, () -> row.addTurn(1, 0, 2));
            due("behind loaded ones", 2, () -> Rows.loaded(3, "120;102").addTurn(1, 0, 2));
        });
    }

    private static void allKinds(int places, int first, int last) {
        TwistedRow row = Rows.withTurns(places, 0);
        for (int kind = 0; kind <= 2; kind++) {
            int next = kind;
            String name = "kind " + kind + " from " + first + " to " + last + " of " + places;
            due(name, kind, () -> row.addTurn(next, first, last));
            due(name + ", sources", turned(places, kind, first, last), () -> Rows.sources(row, 2 * next));
            Rows.arrange(row, Rows.sources(row, 2 * kind));
            due(name + ", and back", places, () -> {
                row.make(2 * next + 1);
                return row.count(3);
            });
        }
    }

    private static String added(int kind, int first, int last) {
        TwistedRow row = new TwistedRow();
        return Rows.sources(row, 2 * row.addTurn(kind, first, last));
    }

    private static void addTurnRefuses() {
        promise(3, "Throws `IndexOutOfBoundsException` if one of the places does not exist", () -> {
            for (int places = 3; places <= 8; places++) {
                int count = places;
                for (Maker maker : List.<Maker>of(() -> Rows.withTurns(count, 2), () -> Rows.crowded(count))) {
                    refused("first -1 of " + places, INDEX, maker, row -> row.addTurn(0, -1, 1));
                    refused("last " + places, INDEX, maker, row -> row.addTurn(1, 0, count));
                    refused("first and last " + places, INDEX, maker, row -> row.addTurn(2, count, count));
                    refused("first " + places, INDEX, maker, row -> row.addTurn(2, count, count - 1));
                    refused("last -1 of " + places, INDEX, maker, row -> row.addTurn(2, 0, -1));
                    refused("both, and kind 3", INDEX, maker, row -> row.addTurn(3, -1, count));
                    refused("far off", INDEX, maker, row -> row.addTurn(-1, LEAST, GREATEST));
                    refused("far off, the other way", INDEX, maker, row -> row.addTurn(0, GREATEST, LEAST));
                }
            }
        });
        promise(3, "Throws `IllegalArgumentException` if kind is not 0 to 2", () -> {
            for (Maker maker : List.<Maker>of(Rows::busy, () -> Rows.crowded(5), TwistedRow::new)) {
                for (int kind : new int[] {-1, 3, 4, LEAST, GREATEST}) {
                    refused("kind " + kind, ARGUMENT, maker, row -> row.addTurn(kind, 0, 4));
                    refused("kind " + kind + ", and last is first", ARGUMENT, maker, row -> row.addTurn(kind, 4, 4));
                }
            }
            due("kind 0 is taken", 0, () -> new TwistedRow().addTurn(0, 0, 4));
            due("kind 2 is taken", 0, () -> new TwistedRow().addTurn(2, 0, 4));
        });
        promise(3, ", or last is not greater than first", () -> {
            for (Maker maker : List.<Maker>of(Rows::busy, () -> Rows.crowded(5), TwistedRow::new)) {
                refused("as great as first", ARGUMENT, maker, row -> row.addTurn(0, 0, 0));
                refused("as great as first, the last place", ARGUMENT, maker, row -> row.addTurn(1, 4, 4));
                refused("less by one", ARGUMENT, maker, row -> row.addTurn(2, 2, 1));
                refused("much less", ARGUMENT, maker, row -> row.addTurn(0, 4, 0));
            }
        });
        promise(3, "Throws `IllegalStateException` if there are 6 turns", () -> {
            due("a sixth is taken", 5, () -> Rows.withTurns(5, 5).addTurn(0, 0, 4));
            for (int kind = 0; kind <= 2; kind++) {
                int next = kind;
                refused("a seventh", STATE, () -> Rows.crowded(5), row -> row.addTurn(next, 0, 4));
                refused("one behind six loaded ones", STATE, () -> Rows.loaded(3, "120;102;210;021;201;012"),
                    row -> row.addTurn(next, 0, 1));
            }
            TwistedRow row = Rows.crowded(5);
            row.dropTurn();
            due("a sixth again, behind a dropped one", 5, () -> row.addTurn(0, 0, 4));
        });
    }

    private static void dropTurn() {
        promise(4, "Removes the last turn with both of its moves", () -> {
            for (int turns = 6; turns >= 1; turns--) {
                int left = turns - 1;
                TwistedRow row = Rows.withTurns(5, turns);
                due("the moves before", (1 << (2 * turns)) - 1, () -> row.count(2));
                row.dropTurn();
                due("the number", left, () -> row.count(1));
                due("the moves", (1 << (2 * left)) - 1, () -> row.count(2));
                due("its forward move", INDEX, () -> row.make(2 * left));
                due("its backward move", INDEX, () -> row.source(2 * left + 1, 0));
                due("what is allowed", ARGUMENT, () -> row.allow(1 << (2 * left)));
                due("what is allowed, backwards", ARGUMENT, () -> row.allow(2 << (2 * left)));
                row.append('A' + left);
                due("its letter", 0, () -> row.firstError(true));
                due("the group", left == 0 ? 1 : 2, () -> row.group(0));
            }
            TwistedRow row = Rows.crowded(5);
            String first = Rows.sources(row, 0);
            row.dropTurn();
            due("forbidden moves stay so, allowed ones too", 0b1111111110, () -> row.count(2));
            due("the first turn stays", first, () -> Rows.sources(row, 0));
            TwistedRow another = Rows.loaded(5, "12340;10234");
            due("the group before", 240, () -> another.group(0) + another.ifForbidden(0, 0));
            // Nothing is asked in between, so that what was found out before would still be there if it were kept.
            another.dropTurn();
            another.addTurn(0, 0, 4);
            due("the group of another one in its place", 20, () -> another.group(0) + another.ifForbidden(0, 0));
            another.begin(5);
            another.addTurn(1, 0, 1);
            another.addTurn(0, 0, 2);
            due("the group of others behind begin", 12, () -> another.group(0) + another.ifForbidden(0, 0));
            TwistedRow forbidden = Rows.withTurns(5, 2);
            forbidden.allow(0b0110);
            forbidden.dropTurn();
            due("one of its moves was forbidden", 0b10, () -> forbidden.count(2));
        });
        promise(4, "the present arrangement stays.", () -> {
            TwistedRow row = Rows.busy();
            String before = Rows.tiles(row);
            row.dropTurn();
            due("behind one", before, () -> Rows.tiles(row));
            row.dropTurn();
            due("behind all", before, () -> Rows.tiles(row));
            due("the buffer, too", 2, row::clearInput);
        });
        promise(4, "Returns how many turns are left.", () -> {
            TwistedRow row = Rows.crowded(8);
            for (int left = 5; left >= 0; left--) {
                due("down to " + left, left, row::dropTurn);
            }
        });
        promise(4, "Throws `IllegalStateException` if there are no turns", () -> {
            refused("of a new row", STATE, TwistedRow::new, TwistedRow::dropTurn);
            refused("behind begin", STATE, () -> {
                TwistedRow row = Rows.crowded(5);
                row.begin(5);
                return row;
            }, TwistedRow::dropTurn);
            refused("behind all of them", STATE, () -> {
                TwistedRow row = Rows.busy();
                row.dropTurn();
                row.dropTurn();
                return row;
            }, TwistedRow::dropTurn);
            due("the only one is dropped", 0, () -> Rows.withTurns(5, 1).dropTurn());
        });
    }

    private static void allow() {
        promise(5, "Allows moves, and forbids all others.", () -> {
            for (int allowed = 0; allowed < 16; allowed++) {
                for (int move = 0; move < 4; move++) {
                    int next = move;
                    TwistedRow row = Rows.withTurns(5, 2);
                    row.allow(15 - allowed);
                    row.allow(allowed);
                    Object made = (allowed >> move & 1) == 1 ? (Object) 2 : STATE;
                    due("move " + move + " with " + allowed, made, () -> row.make(next));
                }
            }
            TwistedRow row = Rows.busy();
            String before = Rows.tiles(row);
            row.allow(0);
            due("the tiles stay", before, () -> Rows.tiles(row));
            due("the turns stay", 2, () -> row.count(1));
        });
        promise(5, "`moves`: the allowed moves, as a bit mask with bit m for the move m", () -> {
            for (int move = 0; move < 12; move++) {
                int next = move;
                TwistedRow row = Rows.crowded(5);
                row.allow(1 << move);
                for (int other = 0; other < 12; other++) {
                    int tried = other;
                    due("bit " + move + ", move " + other, other == next, () -> {
                        try {
                            return row.make(tried) > 0;
                        } catch (IllegalStateException forbidden) {
                            return false;
                        }
                    });
                }
            }
        });
        promise(5, "Returns the previous mask.", () -> {
            TwistedRow row = Rows.withTurns(5, 6);
            int before = 4095;
            for (int moves : new int[] {0, 0, 4095, 1, 2048, 1365, 2730}) {
                due("in front of " + moves, before, () -> row.allow(moves));
                before = moves;
            }
            due("without turns", 0, () -> new TwistedRow().allow(0));
        });
        promise(5, "Throws `IllegalArgumentException` if moves is negative", () -> {
            for (int turns = 0; turns <= 6; turns++) {
                int count = turns;
                due("0 is taken, " + turns, (1 << (2 * turns)) - 1, () -> Rows.withTurns(5, count).allow(0));
                for (int moves : new int[] {-1, -2, -4096, LEAST, LEAST + 1}) {
                    refused(moves + " with turns " + turns, ARGUMENT, () -> Rows.withTurns(5, count), row -> row.allow(moves));
                }
            }
        });
        promise(5, ", or has a bit that stands for no move", () -> {
            for (int turns = 0; turns <= 6; turns++) {
                int count = turns;
                int none = 1 << (2 * turns);
                TwistedRow row = Rows.withTurns(5, turns);
                due("all that there are, " + turns, none - 1, () -> row.allow(none - 1));
                due("they are allowed, " + turns, none - 1, () -> row.count(2));
                for (int moves : new int[] {none, 2 * none, 2 * none - 1, 1 << 30, GREATEST}) {
                    refused(moves + " with turns " + turns, ARGUMENT, () -> Rows.withTurns(5, count), one -> one.allow(moves));
                }
            }
            refused("a bit of a dropped turn", ARGUMENT, () -> {
                TwistedRow row = Rows.busy();
                row.dropTurn();
                return row;
            }, row -> row.allow(4));
        });
    }

    private static void exchange() {
        promise(6, "Exchanges the tiles of two places.", () -> {
            TwistedRow row = Rows.withTurns(8, 0);
            row.exchange(0, 7);
            due("the first and the last", "71234560", () -> Rows.tiles(row));
            row.exchange(7, 3);
            due("the greater place first", "71204563", () -> Rows.tiles(row));
            row.exchange(3, 7);
            due("and back", "71234560", () -> Rows.tiles(row));
        });
        promise(6, "`one`: a place", () -> {
            due("the first", 1, () -> new TwistedRow().exchange(0, 1));
            due("the last", 1, () -> new TwistedRow().exchange(4, 1));
        });
        promise(6, "`other`: a place, possibly the same one", () -> {
            due("the first", 0, () -> new TwistedRow().exchange(1, 0));
            due("the last", 4, () -> new TwistedRow().exchange(1, 4));
            for (int place = 0; place < 5; place++) {
                int next = place;
                int tile = Rows.busy().tile(place);
                leaves("the same one, " + place, tile, Rows::busy, row -> row.exchange(next, next));
            }
        });
        promise(6, "Returns the tile that is at the place one then.", () -> {
            TwistedRow row = new TwistedRow();
            due("4 at 0", 4, () -> row.exchange(0, 4));
            due("4 at 2", 4, () -> row.exchange(2, 0));
            due("0 at 2", 0, () -> row.exchange(2, 4));
        });
        promise(6, "Throws `IndexOutOfBoundsException` if one of the places does not exist", () -> {
            for (int places = 3; places <= 8; places++) {
                int count = places;
                due("the last of " + places, places - 1, () -> Rows.withTurns(count, 0).exchange(0, count - 1));
                for (int place : new int[] {-1, places, LEAST, GREATEST}) {
                    refused("one " + place, INDEX, () -> Rows.crowded(count), row -> row.exchange(place, 0));
                    refused("other " + place, INDEX, () -> Rows.crowded(count), row -> row.exchange(0, place));
                    refused("both " + place, INDEX, () -> Rows.crowded(count), row -> row.exchange(place, place));
                }
            }
        });
    }

    private static void make() {
        promise(7, "Makes a move.", () -> {
            TwistedRow row = Rows.loaded(5, "20143");
            Rows.arrange(row, "43210");
            row.make(0);
            due("the tiles", "24301", () -> Rows.tiles(row));
            row.make(1);
            due("and back", "43210", () -> Rows.tiles(row));
        });
        promise(7, "`move`: its number", () -> {
            for (int turns = 1; turns <= 6; turns++) {
                int last = 2 * turns - 1;
                due("the first of " + turns, 2, () -> Rows.withTurns(5, (last + 1) / 2).make(0));
                due("the last of " + turns, 2, () -> Rows.withTurns(5, (last + 1) / 2).make(last));
            }
        });
        promise(7, "Returns how many tiles are at another place than before.", () -> {
            due("none", 0, () -> Rows.loaded(5, "01234").make(0));
            due("two", 2, () -> Rows.withTurns(8, 1).make(1));
            due("all but one", 7, () -> Rows.loaded(8, "12345607").make(0));
            due("all eight", 8, () -> Rows.loaded(8, "70123456").make(1));
            due("all three", 3, () -> Rows.loaded(3, "120").make(0));
            TwistedRow row = Rows.loaded(5, "20143");
            Rows.arrange(row, "12043");
            due("the row does not matter, nor that it is solved then", 5, () -> row.make(0));
        });
        promise(7, "Throws `IndexOutOfBoundsException` if the move does not exist", () -> {
            for (int turns = 0; turns <= 6; turns++) {
                int count = turns;
                for (int move : new int[] {-1, 2 * turns, 2 * turns + 1, 12, 31, 32, LEAST, GREATEST}) {
                    refused("move " + move + " with turns " + turns, INDEX, () -> Rows.withTurns(5, count), row -> row.make(move));
                    refused("move " + move + ", all are forbidden", INDEX, () -> forbidding(count), row -> row.make(move));
                }
            }
        });
        promise(7, "Throws `IllegalStateException` if it is forbidden", () -> {
            refused("one", STATE, Rows::busy, row -> row.make(3));
            refused("the first of twelve", STATE, () -> Rows.crowded(6), row -> row.make(0));
            refused("the last of twelve", STATE, () -> Rows.crowded(6), row -> row.make(11));
            for (int turns = 1; turns <= 6; turns++) {
                int count = turns;
                refused("the last of all", STATE, () -> forbidding(count), row -> row.make(2 * count - 1));
            }
        });
    }

    private static TwistedRow forbidding(int turns) {
        TwistedRow row = Rows.withTurns(5, turns);
        row.allow(0);
        return row;
    }

    private static void solve() {
        promise(8, "Solves the row by its first shortest word.", () -> {
            TwistedRow row = Rows.busy();
            row.solve();
            due("the tiles", "01234", () -> Rows.tiles(row));
            due("the turns stay", 2, () -> row.count(1));
            due("the allowed moves stay", 0b0111, () -> row.count(2));
            due("the buffer stays", 2, row::clearInput);
            TwistedRow large = Rows.loaded(8, "12345670;10234567");
            Rows.arrange(large, "76543210");
            large.solve();
            due("eight tiles", "01234567", () -> Rows.tiles(large));
        });
        promise(8, "Returns the number of moves", () -> {
            leaves("none, without turns", 0, TwistedRow::new, TwistedRow::solve);
            leaves("none, if it is solved", 0, () -> Rows.withTurns(8, 6), TwistedRow::solve);
            due("two", 2, () -> Rows.busy().solve());
            TwistedRow row = Rows.loaded(8, "70123456");
            row.allow(1);
            row.make(0);
            due("seven, as one is forbidden", 7, row::solve);
            due("none then", 0, row::solve);
        });
        promise(8, "NONE if it cannot be solved (then nothing is changed).", () -> {
            leaves("by no turns", -1, () -> {
                TwistedRow row = new TwistedRow();
                row.exchange(0, 1);
                return row;
            }, TwistedRow::solve);
            leaves("by these turns", -1, Rows::full, TwistedRow::solve);
            leaves("as all moves are forbidden", -1, () -> {
                TwistedRow row = Rows.crowded(5);
                row.allow(0);
                return row;
            }, TwistedRow::solve);
        });
    }
}
