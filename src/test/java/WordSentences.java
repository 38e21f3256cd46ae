import java.math.BigInteger;

/** The sentences of the promises 18 to 22: words. */
final class WordSentences extends Sentences {
    static void all() {
        length();
        wordMove();
        words();
        wordsGoRound();
        phase();
        phaseRefuses();
        ifForbidden();
        ifForbiddenRefuses();
    }

    private static TwistedRow ring(int allowed, int turned) {
        TwistedRow row = Rows.loaded(8, "12345670");
        for (int i = 0; i < turned; i++) {
            row.make(0);
        }
        row.allow(allowed);
        return row;
    }

    private static TwistedRow unsolved() {
        TwistedRow row = new TwistedRow();
        row.exchange(3, 4);
        return row;
    }

    private static void length() {
        promise(18, "Returns the length of the present arrangement.", () -> {
            leaves("solved, without turns", 0, TwistedRow::new, TwistedRow::length);
            leaves("solved, with turns", 0, () -> Rows.withTurns(8, 6), TwistedRow::length);
            for (int turned = 0; turned <= 8; turned++) {
                int next = turned;
                due("both ways, " + turned, Math.min(turned, 8 - turned), () -> ring(3, next).length());
                due("on only, " + turned, (8 - turned) % 8, () -> ring(1, next).length());
                due("back only, " + turned, turned % 8, () -> ring(2, next).length());
            }
            leaves("of two moves", 2, Rows::busy, TwistedRow::length);
        });
        promise(18, "Returns the length; NONE if it cannot be solved by allowed moves.", () -> {
            leaves("no turns", -1, WordSentences::unsolved, TwistedRow::length);
            leaves("of another group", -1, Rows::full, TwistedRow::length);
            leaves("all are forbidden", -1, () -> ring(0, 1), TwistedRow::length);
            due("none is needed", 0, () -> ring(0, 8).length());
            TwistedRow row = Rows.busy();
            row.allow(0b0011);
            due("one kind of move is missing", -1, row::length);
            row.allow(0b1010);
            due("it is there again", 2, row::length);
        });
    }

    private static void wordMove() {
        promise(19, "Returns a move of the first shortest word of the present arrangement.", () -> {
            leaves("the first", 1, Rows::busy, row -> row.wordMove(0));
            leaves("the last", 2, Rows::busy, row -> row.wordMove(1));
            due("of words that differ at the first place", "0 0 0 0", () -> Rows.word(ring(3, 4)));
            TwistedRow square = Rows.square();
            Rows.arrange(square, "1032");
            due("of words that differ at the last place", "0 0 2", () -> Rows.word(square));
            square.allow(0b1110);
            due("without 0", "1 1 2", () -> Rows.word(square));
        });
        promise(19, "`place`: the place of the move in the word, from 0", () -> {
            for (int place = 0; place < 7; place++) {
                int next = place;
                due("place " + place + " of 7", 0, () -> ring(1, 1).wordMove(next));
            }
            due("place 7 of 7", -1, () -> ring(1, 1).wordMove(7));
        });
        promise(19, "Returns the move; NONE if the word has no such place (also for a negative one)", () -> {
            for (int place : new int[] {2, 3, -1, -2, LEAST, GREATEST}) {
                leaves("place " + place + " of two", -1, Rows::busy, row -> row.wordMove(place));
            }
            for (int place : new int[] {0, 1, -1, LEAST, GREATEST}) {
                leaves("place " + place + " of the word without moves", -1, () -> ring(3, 0), row -> row.wordMove(place));
            }
        });
        promise(19, ", or there is none.", () -> {
            for (int place : new int[] {0, 1, -1, -2, LEAST, GREATEST}) {
                leaves("place " + place + ", of another group", -1, Rows::full, row -> row.wordMove(place));
                leaves("place " + place + ", no turns", -1, WordSentences::unsolved, row -> row.wordMove(place));
                leaves("place " + place + ", all are forbidden", -1, () -> ring(0, 2), row -> row.wordMove(place));
            }
        });
    }

    private static void words() {
        promise(20, "Counts the shortest words of the present arrangement.", () -> {
            leaves("two", 2L, Rows::busy, TwistedRow::words);
            due("one way round", 1L, () -> ring(3, 3).words());
            due("both ways round", 2L, () -> ring(3, 4).words());
            TwistedRow six = Rows.withTurns(5, 6);
            six.exchange(0, 1);
            due("each of twelve moves", 12L, six::words);
            six.allow(0b100000000100);
            due("two that are allowed", 2L, six::words);
        });
        promise(20, "Returns how many there are (1 for the solved row, the word without moves)", () -> {
            leaves("without turns", 1L, TwistedRow::new, TwistedRow::words);
            leaves("with six turns", 1L, () -> Rows.withTurns(8, 6), TwistedRow::words);
            leaves("with turns of nothing", 1L, () -> Rows.loaded(3, "012;012"), TwistedRow::words);
            leaves("all are forbidden", 1L, () -> ring(0, 8), TwistedRow::words);
        });
        promise(20, "; 0 if it cannot be solved.", () -> {
            leaves("no turns", 0L, WordSentences::unsolved, TwistedRow::words);
            leaves("of another group", 0L, Rows::full, TwistedRow::words);
            leaves("all are forbidden", 0L, () -> ring(0, 1), TwistedRow::words);
        });
    }

    private static void wordsGoRound() {
        promise(20, ", as a long, which goes round beyond 2 to the power 63, less 1", () -> {
            TwistedRow row = Rows.loaded(8, "70123456;70123456;70123456;70123456;02134567;02134567");
            row.allow(0b111101010101);
            String[] tiles = {"41607352", "06142735", "71460352", "05721643", "31502746", "16052347"};
            long[] due = {1L << 62, 31L << 58, Long.MIN_VALUE, -(1L << 58), 0L, 1L << 58};
            long[] shifted = {16, 31, 32, 63, 64, 65};
            for (int i = 0; i < tiles.length; i++) {
                Rows.arrange(row, tiles[i]);
                BigInteger all = GroupTest.waysToSolve(tiles[i], new String[] {"70123456", "02134567"}, new int[] {4, 4});
                long times = shifted[i];
                due(times + " times 2 to the power 58", BigInteger.valueOf(times).shiftLeft(58), () -> all);
                due("words, " + times + " times 2 to the power 58", due[i], row::words);
                due("there is a word, " + times, true, () -> row.length() >= 28 && row.wordMove(0) >= 0);
            }
        });
    }

    /** Two ways of two moves lead to a group of the move 0: 0 4, from where three moves are left, and 1 2, from where one is. */
    private static TwistedRow ways() {
        TwistedRow row = Rows.loaded(4, "3012;1023;0132");
        Rows.arrange(row, "0213");
        return row;
    }

    private static void phases(String what, int first, int second, Maker maker, int moves) {
        leaves(what + ", the first", first, maker, row -> row.phase(moves, 0));
        leaves(what + ", the second", second, maker, row -> row.phase(moves, 1));
        leaves(what + ", both", first + second, maker, row -> row.phase(moves, 2));
    }

    private static void phase() {
        promise(21, "Returns the lengths of the phases of the present arrangement.", () -> {
            phases("two and three", 2, 3, WordSentences::ways, 1);
            phases("two and one", 2, 1, WordSentences::ways, 3);
            phases("a solved row", 0, 0, () -> Rows.withTurns(8, 6), 4095);
            phases("without turns", 0, 0, TwistedRow::new, 0);
        });
        promise(21, "`moves`: the set of moves, as a bit mask", () -> {
            phases("none", 2, 0, Rows::busy, 0);
            phases("the first one", 1, 2, Rows::busy, 0b0001);
            phases("the second one", 1, 1, Rows::busy, 0b0010);
            phases("the third one", 1, 1, Rows::busy, 0b0100);
            phases("two of them", 0, 3, Rows::busy, 0b0101);
            phases("all that are allowed", 0, 2, Rows::busy, 0b0111);
            due("all of twelve", 2, () -> {
                TwistedRow row = Rows.loaded(8, "10234567;02134567;01324567;01243567;01235467;01234657");
                row.exchange(0, 1);
                row.exchange(5, 6);
                return row.phase(4095, 2);
            });
            due("the last of twelve", 1, () -> {
                TwistedRow row = Rows.loaded(8, "10234567;02134567;01324567;01243567;01235467;01234657");
                row.exchange(0, 1);
                row.exchange(5, 6);
                return row.phase(1 << 11, 0);
            });
        });
        promise(21, "`what`: 0 for the length of the first phase", () -> {
            due("a part of the word", 1, () -> Rows.busy().phase(0b0001, 0));
            due("none in the group", 0, () -> Rows.busy().phase(0b0111, 0));
            due("all by the empty set", 2, () -> Rows.busy().phase(0, 0));
        });
        promise(21, ", 1 for the length of the second phase behind just this first phase", () -> {
            due("the first one of two that are as short", 3, () -> ways().phase(1, 1));
            due("none by the empty set", 0, () -> Rows.busy().phase(0, 1));
            due("by the set, not by all allowed moves", 7, () -> ring(3, 1).phase(1, 1));
        });
        promise(21, ", 2 for the sum of both", () -> {
            due("more than the length", 5, () -> ways().phase(1, 2));
            due("as much as the length", 3, () -> ways().phase(63, 2));
        });
        promise(21, "Returns the length; NONE if the arrangement cannot be solved.", () -> {
            for (int what = 0; what <= 2; what++) {
                int next = what;
                leaves("of another group, by none, " + what, -1, Rows::full, row -> row.phase(0, next));
                leaves("of another group, by all, " + what, -1, Rows::full, row -> row.phase(15, next));
                leaves("no turns, " + what, -1, WordSentences::unsolved, row -> row.phase(0, next));
                leaves("all are forbidden, " + what, -1, () -> ring(0, 1), row -> row.phase(0, next));
                leaves("solved, all are forbidden, " + what, 0, () -> ring(0, 8), row -> row.phase(0, next));
            }
        });
    }

    private static void phaseRefuses() {
        promise(21, "Throws `IllegalArgumentException` if moves is negative", () -> {
            for (int moves : new int[] {-1, -2, -4096, LEAST, LEAST + 1}) {
                for (int what = 0; what <= 2; what++) {
                    int next = what;
                    refused(moves + ", " + what, ARGUMENT, Rows::busy, row -> row.phase(moves, next));
                    refused(moves + ", not to be solved, " + what, ARGUMENT, Rows::full, row -> row.phase(moves, next));
                }
            }
            refused("no turns", ARGUMENT, TwistedRow::new, row -> row.phase(-1, 0));
            due("0 is taken", 0, () -> new TwistedRow().phase(0, 0));
        });
        promise(21, " or has a bit that stands for no allowed move", () -> {
            for (int moves : new int[] {8, 9, 15, 16, 23, 31, 1 << 12, 1 << 30, GREATEST}) {
                refused("moves " + moves, ARGUMENT, Rows::busy, row -> row.phase(moves, 0));
            }
            for (int moves : new int[] {16, 1 << 30, GREATEST}) {
                refused("moves " + moves + ", not to be solved", ARGUMENT, Rows::full, row -> row.phase(moves, 2));
            }
            for (int moves : new int[] {1, 1 << 11, 4095, 4096}) {
                refused("moves " + moves + " of six turns", ARGUMENT, () -> Rows.crowded(5), row -> row.phase(moves, 1));
            }
            refused("no turns", ARGUMENT, TwistedRow::new, row -> row.phase(1, 0));
            due("all that are allowed", 0, () -> Rows.crowded(5).phase(0b011111111110, 0));
        });
        promise(21, ", or what is not 0 to 2", () -> {
            for (int what : new int[] {-1, 3, LEAST, GREATEST}) {
                refused("what " + what, ARGUMENT, Rows::busy, row -> row.phase(0, what));
                refused("what " + what + ", not to be solved", ARGUMENT, Rows::full, row -> row.phase(0, what));
                refused("what " + what + ", and moves", ARGUMENT, Rows::busy, row -> row.phase(-1, what));
            }
            due("2 is taken", 2, () -> Rows.busy().phase(0, 2));
        });
    }

    private static void ifForbidden() {
        promise(22, "Tells what would be if a move were forbidden, too.", () -> {
            due("the other one is forbidden already", -1, () -> ring(1, 1).ifForbidden(0, 1));
            due("the other one is not", 7, () -> ring(3, 1).ifForbidden(1, 1));
            due("this one is not needed", 1, () -> ring(3, 1).ifForbidden(0, 1));
        });
        promise(22, "Nothing is changed.", () -> {
            leaves("order", 6, Rows::busy, row -> row.ifForbidden(0, 0));
            leaves("length", -1, Rows::busy, row -> row.ifForbidden(2, 1));
            TwistedRow row = Rows.busy();
            row.ifForbidden(2, 0);
            due("it is made behind it", 2, () -> row.make(2));
            due("the length behind it", 1, row::length);
        });
        promise(22, "`move`: its number", () -> {
            due("the first of two", 5, () -> ring(3, 5).ifForbidden(0, 1));
            due("the last of two", 3, () -> ring(3, 5).ifForbidden(1, 1));
            for (int turns = 1; turns <= 6; turns++) {
                int last = 2 * turns - 1;
                TwistedRow row = Rows.withTurns(5, turns);
                row.allow(1 << last);
                due("the last of " + turns, 1, () -> row.ifForbidden(last, 0));
                row.allow(1);
                due("the first of " + turns, 1, () -> row.ifForbidden(0, 0));
            }
        });
        promise(22, "`what`: 0 for the order of the group", () -> {
            due("the inverse keeps it", 8, () -> ring(3, 1).ifForbidden(0, 0));
            due("the last move", 1, () -> ring(1, 1).ifForbidden(0, 0));
            due("one of three", 3, () -> Rows.busy().ifForbidden(2, 0));
            due("the other way round", 6, () -> Rows.busy().ifForbidden(1, 0));
        });
        promise(22, ", 1 for the length of the present arrangement", () -> {
            due("the same without 0", 2, () -> Rows.busy().ifForbidden(0, 1));
            due("longer without 1", 3, () -> Rows.busy().ifForbidden(1, 1));
            due("a solved row", 0, () -> ring(1, 8).ifForbidden(0, 1));
        });
        promise(22, ", NONE if it could not be solved", () -> {
            due("without the only one", -1, () -> ring(2, 1).ifForbidden(1, 1));
            due("without the one it needs", -1, () -> Rows.busy().ifForbidden(2, 1));
            leaves("it cannot be solved with it, either", -1, Rows::full, row -> row.ifForbidden(0, 1));
        });
        promise(22, "Returns the number.", () -> {
            due("an order", 3, () -> Rows.busy().ifForbidden(2, 0));
            due("a length", 3, () -> Rows.busy().ifForbidden(1, 1));
        });
    }

    private static void ifForbiddenRefuses() {
        promise(22, "Throws `IndexOutOfBoundsException` if the move does not exist", () -> {
            for (int turns = 0; turns <= 6; turns++) {
                int count = turns;
                for (int move : new int[] {-1, 2 * turns, 2 * turns + 1, 12, 32, LEAST, GREATEST}) {
                    for (int what : new int[] {0, 1, -1, 2}) {
                        refused(move + " of " + turns + " turns, what " + what, INDEX, () -> Rows.withTurns(5, count),
                            row -> row.ifForbidden(move, what));
                    }
                }
            }
        });
        promise(22, "Throws `IllegalArgumentException` if what is not 0 or 1", () -> {
            for (int what : new int[] {-1, 2, 3, LEAST, GREATEST}) {
                refused("what " + what, ARGUMENT, Rows::busy, row -> row.ifForbidden(0, what));
                refused("what " + what + ", not to be solved", ARGUMENT, Rows::full, row -> row.ifForbidden(0, what));
                refused("what " + what + ", of a forbidden move", ARGUMENT, Rows::busy, row -> row.ifForbidden(3, what));
            }
        });
        promise(22, "Throws `IllegalStateException` if the move is forbidden already", () -> {
            for (int what = 0; what <= 1; what++) {
                int next = what;
                refused("one of four", STATE, Rows::busy, row -> row.ifForbidden(3, next));
                refused("the first of twelve", STATE, () -> Rows.crowded(5), row -> row.ifForbidden(0, next));
                refused("the last of twelve", STATE, () -> Rows.crowded(5), row -> row.ifForbidden(11, next));
                refused("all are", STATE, () -> ring(0, 1), row -> row.ifForbidden(1, next));
            }
            due("one that is not", 6, () -> Rows.busy().ifForbidden(0, 0));
        });
    }
}
