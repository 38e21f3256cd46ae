import java.util.List;

/** The sentences of "What it is" and of the first halves of "Terms": rows, moves, solving. */
final class TermSentences extends Sentences {
    static void all() {
        calls();
        rows();
        turns();
        moves();
        solving();
        groups();
        evenArrangements();
        subgroups();
        constants();
    }

    private static void calls() {
        sentence("What it is", "An object is used for at most 512 calls after it has been made; what later calls answer is free.",
            () -> {
                TwistedRow same = new TwistedRow();
                same.exchange(0, 1);
                due("the 512th call, tile", 1, () -> calledOften().tile(0));
                due("the 512th call, digest", same.digest(), () -> calledOften().digest());
                due("the 512th call, addTurn", 0, () -> calledOften().addTurn(1, 0, 4));
                due("the 512th call, append", 1, () -> calledOften().append(32));
                due("the 512th call, a refused one", INDEX, () -> calledOften().tile(5));
            });
    }

    /** A row after 511 calls. */
    private static TwistedRow calledOften() {
        TwistedRow row = new TwistedRow();
        for (int call = 1; call <= 511; call++) {
            row.exchange(0, 1);
        }
        return row;
    }

    private static void rows() {
        term("A row has 3 to 8 places, numbered from 0, and as many tiles, numbered from 0, one at each place.", () -> {
            refused("2 places", ARGUMENT, Rows::busy, row -> row.begin(2));
            refused("9 places", ARGUMENT, Rows::busy, row -> row.begin(9));
            for (int places = 3; places <= 8; places++) {
                int next = places;
                due(places + " places", places, () -> Rows.withTurns(next, 0).count(0));
                due("the tiles of " + places, "01234567".substring(0, places), () -> Rows.tiles(Rows.withTurns(next, 0)));
                refused("place " + next, INDEX, () -> Rows.withTurns(next, 1), row -> row.tile(next));
                refused("place -1 of " + next, INDEX, () -> Rows.withTurns(next, 1), row -> row.tile(-1));
            }
        });
        term("It is solved if each tile is at the place with its number.", () -> {
            for (int places = 3; places <= 8; places++) {
                int last = places - 1;
                TwistedRow row = Rows.withTurns(places, 0);
                due("each of " + places, 0, row::length);
                row.exchange(0, last);
                due("not the first and the last of " + places, -1, row::length);
                row.exchange(0, last);
                row.exchange(last - 1, last);
                due("not the last two of " + places, -1, row::length);
                row.exchange(last - 1, last);
                due("each of " + places + " again", 0, row::solve);
            }
        });
    }

    private static void turns() {
        term("There are at most 6 turns, numbered from 0 in the order in which they were added.", () -> {
            TwistedRow row = new TwistedRow();
            for (int turn = 0; turn < 4; turn++) {
                int next = turn;
                due("by addTurn, turn " + turn, turn, () -> row.addTurn(2, next, next + 1));
            }
            Rows.type(row, "12340;43210");
            due("by load, up to six", 6, row::load);
            List<String> sources = List.of("10234", "02134", "01324", "01243", "12340", "43210");
            for (int turn = 0; turn < 6; turn++) {
                int next = turn;
                due("the sources of turn " + turn, sources.get(turn), () -> Rows.sources(row, 2 * next));
            }
            refused("a seventh by addTurn", STATE, () -> Rows.crowded(5), full -> full.addTurn(2, 0, 1));
            refused("a seventh by load", ARGUMENT, () -> {
                TwistedRow full = Rows.withTurns(5, 6);
                Rows.type(full, "12340");
                return full;
            }, TwistedRow::load);
        });
        term("A turn is given by a place s(k) for each place k, so that each place occurs once: "
            + "the turn takes the tile at s(k) to the place k, for all k at once.", () -> {
                TwistedRow row = Rows.loaded(5, "12340;01234;40123");
                Rows.arrange(row, "20413");
                row.make(0);
                due("all at once, down", "04132", () -> Rows.tiles(row));
                row.make(4);
                due("all at once, up", "20413", () -> Rows.tiles(row));
                due("each place where it is", 0, () -> row.make(2));
                refused("a place twice, another never", ARGUMENT, () -> {
                    TwistedRow other = Rows.busy();
                    other.clearInput();
                    Rows.type(other, "01233");
                    return other;
                }, TwistedRow::load);
            });
    }

    private static void moves() {
        term("There are two moves for each turn: the move 2 * t is the turn t, and the move 2 * t + 1 is its inverse, "
            + "which undoes it.", () -> {
                for (int turns = 1; turns <= 6; turns++) {
                    int count = turns;
                    TwistedRow row = Rows.withTurns(5, turns - 1);
                    Rows.type(row, "20143");
                    row.load();
                    due("the turn is move " + (2 * turns - 2), 5, () -> row.make(2 * count - 2));
                    due("it is made", "20143", () -> Rows.tiles(row));
                    due("its inverse is move " + (2 * turns - 1), 5, () -> row.make(2 * count - 1));
                    due("it is undone", "01234", () -> Rows.tiles(row));
                    due("the inverse alone", 5, () -> row.make(2 * count - 1));
                    due("the inverse is made", "12043", () -> Rows.tiles(row));
                    refused("move " + 2 * turns, INDEX, () -> Rows.withTurns(5, count), other -> other.make(2 * count));
                }
                refused("move 0 without turns", INDEX, () -> Rows.withTurns(5, 0), row -> row.make(0));
                refused("move -1", INDEX, Rows::busy, row -> row.make(-1));
            });
        term("Moves are allowed or forbidden.", () -> {
            for (int move = 0; move < 12; move++) {
                int next = move;
                int rest = 4095 & ~(1 << move);
                due("only " + move + " is allowed", 2, () -> allowing(1 << next).make(next));
                refused("all but " + move + " are allowed", STATE, () -> allowing(rest), row -> row.make(next));
            }
        });
        term("When a turn is added, both of its moves are allowed.", () -> {
            TwistedRow row = new TwistedRow();
            for (int turn = 0; turn < 6; turn++) {
                row.allow(0);
                row.addTurn(2, 0, 1);
                due("only those of turn " + turn, 3 << (2 * turn), () -> row.count(2));
            }
            row.allow(0);
            row.dropTurn();
            row.addTurn(0, 0, 1);
            due("those of a turn in place of a forbidden one", 3 << 10, () -> row.count(2));
            TwistedRow loaded = Rows.withTurns(5, 1);
            loaded.allow(0);
            Rows.type(loaded, "12340;43210");
            loaded.load();
            due("those of loaded ones", 0b111100, () -> loaded.count(2));
        });
        term("A word is a sequence of moves; its length is the number of its moves. It is carried out move by move.", () -> {
            TwistedRow row = Rows.loaded(4, "3012;1023");
            Rows.type(row, "ab");
            due("two moves", 2, row::run);
            due("the first one first", "0312", () -> Rows.tiles(row));
            due("the way back is as long", 2, row::length);
            due("and in the other order", "2 1", () -> Rows.word(row));
        });
    }

    private static TwistedRow allowing(int moves) {
        TwistedRow row = Rows.withTurns(5, 6);
        row.allow(moves);
        return row;
    }

    private static void solving() {
        term("An arrangement can be solved by some moves if a word of these moves takes it to the solved row.", () -> {
            TwistedRow row = Rows.loaded(4, "3012;3210");
            row.exchange(0, 1);
            due("not by these", -1, row::length);
            row.addTurn(2, 0, 1);
            due("but by one more", 1, row::length);
            row.exchange(0, 1);
            row.allow(0);
            due("the solved row by the word without moves", 0, row::length);
            row.exchange(2, 3);
            due("no other one without moves", -1, row::length);
        });
        term("The length of an arrangement is the least length of a word of allowed moves that solves it.", () -> {
            TwistedRow row = Rows.loaded(8, "70123456");
            row.make(0);
            due("back by one move", 1, row::length);
            row.allow(1);
            due("on by seven, if it is forbidden", 7, row::length);
            row.allow(0);
            due("not at all, if both are", -1, row::length);
        });
        term("Of its shortest words the first one is the one that is less at the first place at which they differ, "
            + "by the numbers of the moves.", () -> {
                TwistedRow row = Rows.loaded(5, "10234;01243");
                row.exchange(0, 1);
                row.exchange(3, 4);
                due("of eight", "0 2", () -> Rows.word(row));
                row.allow(0b1010);
                due("of 1 3 and 3 1", "1 3", () -> Rows.word(row));
                row.allow(0b1101);
                due("of those that begin with 0", "0 2", () -> Rows.word(row));
                row.allow(0b1110);
                due("of those that begin with 1", "1 2", () -> Rows.word(row));
                TwistedRow late = Rows.loaded(5, "01243;10234");
                late.exchange(0, 1);
                late.exchange(3, 4);
                late.allow(0b0110);
                due("the lesser move first, whichever it is", "1 2", () -> Rows.word(late));
            });
    }

    private static void groups() {
        term("The group of some moves consists of all arrangements that can be solved by them (or, which is the same, "
            + "all to which they take the solved row). Its order is their number. "
            + "The group is that of the allowed moves.", () -> {
                TwistedRow row = Rows.loaded(3, "120;102");
                int[] orders = {1, 3, 3, 3, 2, 6, 6, 6, 2, 6, 6, 6, 2, 6, 6, 6};
                for (int allowed = 0; allowed < orders.length; allowed++) {
                    row.allow(allowed);
                    due("the order with " + allowed, orders[allowed], () -> row.group(0));
                }
                TwistedRow one = Rows.loaded(3, "120");
                one.allow(1);
                for (int i = 0; i < 3; i++) {
                    due("taken there, and solved", (3 - i) % 3, one::length);
                    one.make(0);
                }
                one.exchange(0, 1);
                due("neither the one nor the other", -1, one::length);
            });
        term("Two places are in the same orbit of some moves if words of these moves take a tile from the one to the other "
            + "(a place from which no move takes its tile away is an orbit by itself).", () -> {
                for (int places = 3; places <= 8; places++) {
                    int next = places;
                    due("no turns of " + places, places, () -> Rows.withTurns(next, 0).group(1));
                    due("a turn of two of " + places, places - 1, () -> Rows.withTurns(next, 1).group(1));
                    TwistedRow row = Rows.withTurns(places, 0);
                    row.addTurn(1, 0, places - 1);
                    row.allow(2);
                    due("a turn of all of " + places, 1, () -> row.group(1));
                    row.allow(0);
                    due("a forbidden one of " + places, places, () -> row.group(1));
                }
                due("a turn that takes no tile away", 5, () -> Rows.loaded(5, "01234").group(1));
                due("two pairs that stay apart", 4, () -> Rows.loaded(6, "102345;012354").group(1));
                due("a chain of words", 1, () -> Rows.loaded(6, "012354;012435;013245;021345;102345").group(1));
            });
        term("The basic orbit of the place k consists of all places at which the tile k is in some arrangement of the group "
            + "in which each tile with a lower number is at the place with its number.", () -> {
                TwistedRow row = Rows.loaded(5, "12340");
                due("no tile is lower than 0", 31, () -> row.basicOrbit(0));
                due("0 is held, and with it 1", 2, () -> row.basicOrbit(1));
                due("all are held but the last", 16, () -> row.basicOrbit(4));
                TwistedRow last = Rows.loaded(5, "01243");
                due("the last two", 0b11000, () -> last.basicOrbit(3));
                due("the last one", 0b10000, () -> last.basicOrbit(4));
                last.allow(0);
                due("the group of no moves", 0b01000, () -> last.basicOrbit(3));
                TwistedRow both = Rows.loaded(5, "10243");
                due("two that go together, the first", 0b00011, () -> both.basicOrbit(0));
                due("two that go together, the other", 0b01000, () -> both.basicOrbit(3));
            });
    }

    private static void evenArrangements() {
        term("An arrangement is even if it has an even number of pairs of tiles of which the one with the greater number "
            + "is at the lower place.", () -> {
                int[] pairs = {3, 6, 10, 15, 21, 28};
                for (int places = 3; places <= 8; places++) {
                    TwistedRow row = Rows.withTurns(places, 0);
                    due("no pair of " + places, 1, () -> row.count(4));
                    row.exchange(places - 2, places - 1);
                    due("one pair of " + places, 0, () -> row.count(4));
                    row.exchange(places - 2, places - 1);
                    Rows.arrange(row, new StringBuilder("01234567".substring(0, places)).reverse().toString());
                    due("all pairs of " + places, 1 - pairs[places - 3] % 2, () -> row.count(4));
                }
            });
    }

    private static void subgroups() {
        term("Let a set of allowed moves be given.", () -> {
            TwistedRow row = Rows.busy();
            due("an empty set", 2, () -> row.phase(0, 0));
            due("all of them", 0, () -> row.phase(0b0111, 0));
            refused("one of them is forbidden", ARGUMENT, Rows::busy, other -> other.phase(0b1000, 0));
        });
        term("The first phase of an arrangement is the first one of the shortest words of allowed moves that take it "
            + "to an arrangement of the group of this set.", () -> {
                TwistedRow row = Rows.loaded(4, "3012;1023;0132");
                due("none, if it is in the group already", 0, () -> row.phase(0, 0));
                Rows.arrange(row, "0213");
                due("as short as can be", 2, () -> row.phase(1, 0));
                due("the first one of two: it ends where three moves 0 are due", 3, () -> row.phase(1, 1));
            });
        term("The second phase is a shortest word of moves of this set that solves the arrangement to which "
            + "the first phase takes it.", () -> {
                TwistedRow row = Rows.loaded(4, "3012;1023");
                Rows.arrange(row, "3012");
                due("one move", 1, () -> row.phase(2, 1));
                due("of this set, not of others", 3, () -> row.phase(1, 1));
                due("none behind a first phase that solves it", 0, () -> row.phase(4, 1));
            });
    }

    private static void constants() {
        term("`NONE = -1`: There is no such number.", () -> {
            due("NONE", -1, () -> TwistedRow.NONE);
            TwistedRow row = new TwistedRow();
            due("the move at a place that the word does not have", TwistedRow.NONE, () -> row.wordMove(0));
        });
    }
}
