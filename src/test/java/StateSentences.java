import java.math.BigInteger;

/** The sentences of the promises 23 to 28: what there is. */
final class StateSentences extends Sentences {
    static void all() {
        tile();
        source();
        commute();
        count();
        countOfTiles();
        meanLength();
        digest();
        digestOfTheRow();
        digestOfTheGroup();
    }

    private static void tile() {
        promise(23, "Returns the tile at a place.", () -> {
            TwistedRow row = Rows.withTurns(8, 0);
            row.exchange(0, 7);
            due("at the first place", 7, () -> row.tile(0));
            due("at the last place", 0, () -> row.tile(7));
            due("at another", 3, () -> row.tile(3));
        });
        promise(23, "`place`: number of the place", () -> {
            for (int places = 3; places <= 8; places++) {
                for (int place = 0; place < places; place++) {
                    int next = place;
                    int count = places;
                    leaves(place + " of " + places, place, () -> Rows.withTurns(count, 0), row -> row.tile(next));
                }
            }
        });
        promise(23, "Returns the number of the tile.", () -> {
            due("the least", 0, () -> new TwistedRow().tile(0));
            due("the greatest", 7, () -> Rows.withTurns(8, 0).tile(7));
            due("not its place", 4, () -> Rows.busy().tile(3));
        });
        promise(23, "Throws `IndexOutOfBoundsException` if the place does not exist", () -> {
            for (int places = 3; places <= 8; places++) {
                int count = places;
                for (int place : new int[] {-1, places, 9, LEAST, GREATEST}) {
                    refused("place " + place + " of " + places, INDEX, () -> Rows.crowded(count), row -> row.tile(place));
                }
            }
            refused("a place of the row before", INDEX, () -> {
                TwistedRow row = Rows.crowded(8);
                row.begin(3);
                return row;
            }, row -> row.tile(3));
        });
    }

    private static void source() {
        promise(24, "Returns from where a move takes a tile.", () -> {
            for (int place = 0; place < 5; place++) {
                int next = place;
                leaves("the turn, " + place, "20143".charAt(place) - '0', () -> Rows.loaded(5, "20143"), row -> row.source(0, next));
                leaves("its inverse, " + place, "12043".charAt(place) - '0', () -> Rows.loaded(5, "20143"), row -> row.source(1, next));
            }
            due("of a forbidden move", 4, () -> Rows.busy().source(3, 3));
        });
        promise(24, "`move`: its number", () -> {
            due("the first", 1, () -> Rows.withTurns(5, 6).source(0, 0));
            due("the last", 1, () -> Rows.withTurns(5, 6).source(11, 0));
            due("the last of two", 1, () -> Rows.withTurns(5, 1).source(1, 0));
        });
        promise(24, "`place`: a place", () -> {
            for (int places = 3; places <= 8; places++) {
                int count = places;
                due("the first of " + places, 1, () -> Rows.withTurns(count, 1).source(0, 0));
                due("the last of " + places, places - 1, () -> Rows.withTurns(count, 1).source(1, count - 1));
            }
        });
        promise(24, "Returns the place from which the move takes the tile to this place.", () -> {
            TwistedRow row = Rows.crowded(6);
            for (int move = 1; move <= 10; move++) {
                String before = Rows.tiles(row);
                int next = move;
                for (int place = 0; place < 6; place++) {
                    int at = place;
                    TwistedRow made = Rows.crowded(6);
                    made.make(next);
                    due("move " + move + ", place " + place, made.tile(at), () -> before.charAt(row.source(next, at)) - '0');
                }
            }
        });
        promise(24, "Throws `IndexOutOfBoundsException` if the move or the place does not exist", () -> {
            for (int turns = 0; turns <= 6; turns++) {
                int count = turns;
                for (int move : new int[] {-1, 2 * turns, 2 * turns + 1, 12, LEAST, GREATEST}) {
                    refused("move " + move + " of " + turns + " turns", INDEX, () -> Rows.withTurns(5, count), row -> row.source(move, 0));
                    refused("move " + move + " of " + turns + " turns, place 5", INDEX, () -> Rows.withTurns(5, count),
                        row -> row.source(move, 5));
                }
            }
            for (int places = 3; places <= 8; places++) {
                int count = places;
                for (int place : new int[] {-1, places, 9, LEAST, GREATEST}) {
                    refused("place " + place + " of " + places, INDEX, () -> Rows.crowded(count), row -> row.source(11, place));
                }
            }
        });
    }

    private static void commute() {
        promise(25, "Tells whether two moves commute.", () -> {
            leaves("apart", true, Rows::busy, row -> row.commute(0, 3));
            leaves("not apart", false, () -> Rows.loaded(3, "102;021"), row -> row.commute(0, 3));
            due("forbidden ones", true, () -> {
                TwistedRow row = Rows.busy();
                row.allow(0);
                return row.commute(2, 1);
            });
            due("sharing places", true, () -> Rows.loaded(4, "1032;2301").commute(0, 2));
        });
        promise(25, "`one`: a move", () -> {
            due("the first", true, () -> Rows.withTurns(5, 6).commute(0, 5));
            due("the last", true, () -> Rows.withTurns(5, 6).commute(11, 5));
        });
        promise(25, "`other`: a move", () -> {
            due("the first", true, () -> Rows.withTurns(5, 6).commute(5, 0));
            due("the last", true, () -> Rows.withTurns(5, 6).commute(5, 11));
            due("the same one", true, () -> Rows.loaded(5, "12340").commute(0, 0));
            due("its inverse", true, () -> Rows.loaded(5, "12340").commute(0, 1));
        });
        promise(25, "Returns whether both words of them, one after the other, take each arrangement to the same one.", () -> {
            TwistedRow row = Rows.loaded(8, "12345670;10234567;70123456;23456701;01234567;45670123");
            boolean[] apart = {true, false, true, true, true, true};
            for (int turn = 0; turn < 6; turn++) {
                int next = turn;
                due("turn 0 and " + turn, apart[turn], () -> row.commute(0, 2 * next + 1));
                due(turn + " and turn 0", apart[turn], () -> row.commute(2 * next, 1));
            }
            due("they differ at places other than the first", false, () -> Rows.loaded(5, "01324;01243").commute(0, 2));
            due("turns of three that differ at the last places only", false, () -> Rows.loaded(8, "01234675;01234657").commute(0, 2));
        });
        promise(25, "Throws `IndexOutOfBoundsException` if one of the moves does not exist", () -> {
            for (int turns = 0; turns <= 6; turns++) {
                int count = turns;
                for (int move : new int[] {-1, 2 * turns, 2 * turns + 1, 12, LEAST, GREATEST}) {
                    refused("one " + move + " of " + turns, INDEX, () -> Rows.withTurns(5, count), row -> row.commute(move, 0));
                    refused("other " + move + " of " + turns, INDEX, () -> Rows.withTurns(5, count), row -> row.commute(0, move));
                    refused("both " + move + " of " + turns, INDEX, () -> Rows.withTurns(5, count), row -> row.commute(move, move));
                }
            }
        });
    }

    private static void count() {
        promise(26, "Returns a number.", () -> {
            int[] due = {5, 2, 0b0111, 0, 0};
            for (int what = 0; what <= 4; what++) {
                int next = what;
                leaves("count " + what, due[what], Rows::busy, row -> row.count(next));
            }
        });
        promise(26, "`what`: 0 for the number of places", () -> {
            for (int places = 3; places <= 8; places++) {
                int count = places;
                due("of " + places, places, () -> Rows.crowded(count).count(0));
            }
        });
        promise(26, ", 1 for the number of turns", () -> {
            for (int turns = 0; turns <= 6; turns++) {
                int count = turns;
                due("of " + turns, turns, () -> Rows.withTurns(8, count).count(1));
            }
        });
        promise(26, ", 2 for the allowed moves as a bit mask", () -> {
            due("none, without turns", 0, () -> new TwistedRow().count(2));
            due("all twelve", 4095, () -> Rows.withTurns(8, 6).count(2));
            for (int move = 0; move < 12; move++) {
                int next = move;
                due("move " + move, 1 << move, () -> {
                    TwistedRow row = Rows.withTurns(3, 6);
                    row.allow(1 << next);
                    return row.count(2);
                });
            }
        });
        promise(26, "Throws `IllegalArgumentException` if what is not 0 to 4", () -> {
            for (int what : new int[] {-1, 5, 6, LEAST, GREATEST}) {
                refused("what " + what, ARGUMENT, Rows::busy, row -> row.count(what));
                refused("what " + what + ", new", ARGUMENT, TwistedRow::new, row -> row.count(what));
            }
            due("0 is taken", 5, () -> new TwistedRow().count(0));
            due("4 is taken", 1, () -> new TwistedRow().count(4));
        });
    }

    private static void countOfTiles() {
        promise(26, ", 3 for the number of tiles that are at the place with their number", () -> {
            for (int places = 3; places <= 8; places++) {
                int count = places;
                due("all " + places, places, () -> Rows.withTurns(count, 0).count(3));
                TwistedRow row = Rows.withTurns(places, 0);
                row.exchange(0, places - 1);
                due("all but two of " + places, places - 2, () -> row.count(3));
                TwistedRow none = Rows.withTurns(places, 0);
                none.addTurn(1, 0, places - 1);
                none.make(0);
                due("none of " + places, 0, () -> none.count(3));
            }
        });
        promise(26, ", 4 for 1 if the present arrangement is even, else 0", () -> {
            due("the solved row", 1, () -> new TwistedRow().count(4));
            for (int places = 3; places <= 8; places++) {
                for (int one = 0; one < places; one++) {
                    TwistedRow row = Rows.withTurns(places, 0);
                    row.exchange(one, (one + 1) % places);
                    due("an exchange at " + one + " of " + places, 0, () -> row.count(4));
                    row.exchange((one + 1) % places, (one + 2) % places);
                    due("two exchanges at " + one + " of " + places, 1, () -> row.count(4));
                }
            }
        });
        promise(26, "Returns the number.", () -> {
            due("the least number of tiles", 0, () -> Rows.busy().count(3));
            due("the greatest", 8, () -> Rows.withTurns(8, 0).count(3));
        });
    }

    private static TwistedRow allowing(int places, String turns, int allowed) {
        TwistedRow row = Rows.loaded(places, turns);
        row.allow(allowed);
        return row;
    }

    private static void meanLength() {
        promise(27, "Returns the mean length.", () -> {
            leaves("of the group, not of the present arrangement", 7.0 / 6.0, Rows::busy, TwistedRow::meanLength);
            leaves("of the square, which does not solve it", 1.5, Rows::full, TwistedRow::meanLength);
        });
        promise(27, "Returns the sum of the lengths of all arrangements of the group, as a double, divided by its order.", () -> {
            leaves("no turns: the solved row alone", 0.0, TwistedRow::new, TwistedRow::meanLength);
            due("all are forbidden", 0.0, () -> allowing(8, "12345670", 0).meanLength());
            due("a turn of nothing", 0.0, () -> Rows.loaded(5, "01234").meanLength());
            due("of two", 0.5, () -> Rows.loaded(5, "10234").meanLength());
            due("of three, both ways", 2.0 / 3.0, () -> Rows.loaded(5, "12034").meanLength());
            due("of three, one way", 1.0, () -> allowing(5, "12034", 2).meanLength());
            due("of eight, one way", 3.5, () -> allowing(8, "12345670", 1).meanLength());
            due("of fifteen, one way", 7.0, () -> allowing(8, "12340675", 1).meanLength());
            due("of fifteen, both ways", 56.0 / 15.0, () -> Rows.loaded(8, "12340675").meanLength());
            due("of six", 1.5, () -> Rows.loaded(3, "102;021").meanLength());
            due("of 5040", 10.5, () -> Rows.loaded(7, "1023456;0213456;0132456;0124356;0123546;0123465").meanLength());
        });
    }

    /** The hash with numbers of any size, of what the row answers and of the text that was typed. */
    private static BigInteger wholeHash(TwistedRow row, String input) {
        return StateTest.valuesOf(row, input).stream().map(BigInteger::valueOf)
            .reduce(BigInteger.valueOf(2011), (hash, value) -> hash.multiply(BigInteger.valueOf(31)).add(value));
    }

    private static void hashed(String what, TwistedRow row, String input) {
        BigInteger whole = wholeHash(row, input);
        due(what, whole.longValue(), row::digest);
    }

    private static void digest() {
        promise(28, "Computes a hash of the whole state.", () -> {
            leaves("of a row in the midst of things", Rows.busy().digest(), Rows::busy, TwistedRow::digest);
            due("twice", true, () -> {
                TwistedRow row = Rows.full();
                return row.digest() == row.digest() && row.digest() == Rows.full().digest();
            });
            hashed("new", new TwistedRow(), "");
            hashed("busy", Rows.busy(), "aB");
            hashed("full", Rows.full(), "a".repeat(60));
            hashed("eight places and six turns", Rows.crowded(8), "bE");
            hashed("three places and six turns", Rows.crowded(3), "bE");
        });
        promise(28, "The hash starts as 2011; each value x replaces the hash by 31 * hash + x, in long arithmetic with overflow.", () -> {
            TwistedRow row = new TwistedRow();
            due("it goes beyond a long", true, () -> wholeHash(row, "").bitLength() > 64);
            due("a new row's, by hand", newRowsHash(), row::digest);
            due("the values less than 0, too", wholeHash(Rows.full(), "a".repeat(60)).longValue(), () -> Rows.full().digest());
        });
        promise(28, "the length of the input buffer and each of its character codes.", () -> {
            long empty = new TwistedRow().digest();
            for (int code = 32; code <= 126; code++) {
                int next = code;
                due("one, " + code, (empty + 1) * 31 + code, () -> {
                    TwistedRow row = new TwistedRow();
                    row.append(next);
                    return row.digest();
                });
            }
            long hash = empty + 60;
            TwistedRow row = new TwistedRow();
            for (int i = 0; i < 60; i++) {
                row.append(40 + i);
                hash = 31 * hash + 40 + i;
            }
            due("sixty", hash, row::digest);
            row.clearInput();
            due("none again", empty, row::digest);
        });
    }

    /** Every value of a new row, one by one as the document names them. */
    private static long newRowsHash() {
        long[] values = {5, 0, 0, 5, 1, 0, 1, 2, 3, 4, 1, 5, 0, 1, 1, 2, 4, 8, 16, 1, 0, 0, 0, 0, 0, 0, 0, 0, 0, 0, 1, 0, 0};
        long hash = 2011;
        for (long value : values) {
            hash = 31 * hash + value;
        }
        return hash;
    }

    private static void digestOfTheRow() {
        promise(28, "The values are, in this order: count for 0 to 4", () -> {
            for (int places = 3; places <= 8; places++) {
                for (int turns = 0; turns <= 6; turns += 2) {
                    hashed(places + " places, " + turns + " turns", Rows.withTurns(places, turns), "");
                }
            }
            for (int allowed = 0; allowed < 16; allowed++) {
                hashed("allowed " + allowed, allowing(4, "3012;3210", allowed), "");
            }
        });
        promise(28, "; the tiles of all places", () -> {
            TwistedRow row = Rows.withTurns(8, 0);
            for (int place = 1; place < 8; place++) {
                row.exchange(0, place);
                hashed("exchanged, " + place, row, "");
            }
        });
        promise(28, "; for each move its sources of all places", () -> {
            hashed("forbidden ones, too", allowing(8, "12345670;07654321;01234576", 0), "");
            hashed("the inverse ones, too", Rows.loaded(5, "12043"), "");
            hashed("not of a dropped one", dropped(), "aB");
        });
    }

    private static TwistedRow dropped() {
        TwistedRow row = Rows.busy();
        row.dropTurn();
        return row;
    }

    private static void digestOfTheGroup() {
        promise(28, "; group for 0 to 3; the basic orbits of all places", () -> {
            hashed("of no turns", Rows.withTurns(8, 0), "");
            hashed("of some places", Rows.loaded(6, "103254;012354"), "");
            hashed("of all eight", Rows.loaded(8, "12345670;10234567"), "");
        });
        promise(28, "; layer for 0 to 9", () -> {
            // One way round, a turn has one arrangement of each length below its order: 5, 8, 10, 12 and 15.
            for (String turn : new String[] {"12340567", "12345670", "12340657", "12305647", "12340675"}) {
                hashed("of turn " + turn, allowing(8, turn, 1), "");
            }
            hashed("of 29 lengths", Rows.loaded(8, "12345670;10234567"), "");
        });
        promise(28, "; length, words, and the moves of the first shortest word", () -> {
            hashed("of the word without moves", Rows.withTurns(5, 2), "");
            hashed("of two moves", Rows.busy(), "aB");
            hashed("of no word", Rows.full(), "a".repeat(60));
            TwistedRow row = allowing(8, "12340675", 2);
            for (int length = 1; length <= 15; length++) {
                row.make(1);
                hashed("of one more move of 15, " + length, row, "");
            }
            TwistedRow many = Rows.loaded(8, "70123456;70123456;70123456;70123456;02134567;02134567");
            many.allow(0b111101010101);
            Rows.arrange(many, "71460352");
            hashed("of words that go round", many, "");
        });
        promise(28, "; meanLength as Double.doubleToLongBits", () -> {
            hashed("0", new TwistedRow(), "");
            hashed("a half", Rows.loaded(5, "10234"), "");
            hashed("two thirds", Rows.loaded(5, "12034"), "");
            hashed("one", allowing(5, "12034", 1), "");
            hashed("one again", Rows.loaded(4, "1032;2301"), "");
            hashed("a half and three", allowing(8, "12345670", 1), "");
            hashed("seven", allowing(8, "12340675", 1), "");
            hashed("one that does not end", Rows.loaded(8, "12340675"), "");
            hashed("the greatest group", Rows.loaded(8, "12345670;10234567"), "");
            TwistedRow row = allowing(8, "12345670;10234567", 0b0101);
            hashed("the greatest group, one way", row, "");
            due("the bits of one", true, () -> Double.doubleToLongBits(allowing(5, "12034", 1).meanLength()) == 0x3ff0000000000000L);
        });
        promise(28, "Returns the hash.", () -> {
            TwistedRow row = Rows.busy();
            long before = row.digest();
            row.append(97);
            due("another one with another state", false, () -> row.digest() == before);
            due("the same one with the same state", before, () -> {
                TwistedRow other = Rows.busy();
                other.make(0);
                other.make(1);
                return other.digest();
            });
        });
    }
}
