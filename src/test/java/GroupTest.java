import java.math.BigInteger;
import java.util.HashMap;
import java.util.Map;

/** Promises 15 to 22: the group and the words. */
public final class GroupTest {
    private static final Class<? extends RuntimeException> INDEX = IndexOutOfBoundsException.class;
    private static final Class<? extends RuntimeException> ARGUMENT = IllegalArgumentException.class;
    private static final Class<? extends RuntimeException> STATE = IllegalStateException.class;

    private static void group(int places, String turns, int allowed, int order, int orbits, int greatest, int even) {
        TwistedRow row = Rows.loaded(places, turns);
        if (allowed >= 0) {
            row.allow(allowed);
        }
        String name = "15: " + turns + " allowed " + allowed;
        Check.due(name + ", order", order, () -> row.group(0));
        Check.due(name + ", orbits", orbits, () -> row.group(1));
        Check.due(name + ", greatest length", greatest, () -> row.group(2));
        Check.due(name + ", even ones", even, () -> row.group(3));
    }

    private static void promise15Group() {
        group(5, "", 0, 1, 5, 0, 1);
        group(4, "3012;3210", 15, 8, 1, 3, 4);
        group(4, "3012;3210", 1, 4, 1, 3, 2);
        group(4, "3012;3210", 2, 4, 1, 3, 2);
        group(4, "3012;3210", 3, 4, 1, 2, 2);
        group(4, "3012;3210", 8, 2, 2, 1, 2);
        group(4, "3012;3210", 0, 1, 4, 0, 1);
        group(5, "20134;01243", -1, 6, 2, 2, 3);
        group(5, "20134", 1, 3, 3, 2, 3);
        group(3, "012", -1, 1, 3, 0, 1);
        group(8, "12045673", -1, 15, 2, 7, 15);
        group(8, "12045673", 1, 15, 2, 14, 15);
        group(8, "12345670;10234567", -1, 40320, 1, 28, 20160);
        group(7, "1023456;0213456;0132456;0124356;0123546;0123465", -1, 5040, 1, 21, 2520);
        TwistedRow row = Rows.square();
        for (int what : new int[] {-1, 4, Integer.MIN_VALUE, Integer.MAX_VALUE}) {
            Check.refused(row, "15: what " + what, ARGUMENT, () -> row.group(what));
        }
        row.exchange(0, 1);
        Check.due("15: the row does not matter", 8, () -> row.group(0));
        Check.due("15: nor for the length", 3, () -> row.group(2));
    }

    private static void promise16BasicOrbit() {
        TwistedRow row = Rows.square();
        int[] orbits = {15, 10, 4, 8};
        for (int place = 0; place < 4; place++) {
            int next = place;
            Check.due("16: of " + place, orbits[next], () -> row.basicOrbit(next));
        }
        for (int place : new int[] {-1, 4, Integer.MIN_VALUE, Integer.MAX_VALUE}) {
            Check.refused(row, "16: place " + place, INDEX, () -> row.basicOrbit(place));
        }
        row.exchange(1, 3);
        Check.due("16: the row does not matter", 10, () -> row.basicOrbit(1));
        row.allow(3);
        Check.due("16: turned only", 2, () -> row.basicOrbit(1));
        TwistedRow one = Rows.loaded(5, "01342");
        Check.due("16: a place that stays", 1, () -> one.basicOrbit(0));
        Check.due("16: three places", 0b11100, () -> one.basicOrbit(2));
        Check.due("16: fixed by the others", 8, () -> one.basicOrbit(3));
        TwistedRow all = Rows.loaded(8, "12345670;10234567");
        int left = 255;
        for (int place = 0; place < 8; place++) {
            int next = place;
            int due = left;
            Check.due("16: of all, " + place, due, () -> all.basicOrbit(next));
            left &= ~(1 << place);
        }
    }

    private static void promise17Layer() {
        TwistedRow row = Rows.square();
        row.exchange(0, 1);
        int[] layers = {1, 3, 3, 1, 0, 0};
        for (int length = 0; length < layers.length; length++) {
            int next = length;
            Check.due("17: of length " + length, layers[next], () -> row.layer(next));
        }
        Check.due("17: a negative one", 0, () -> row.layer(-1));
        Check.due("17: the least number", 0, () -> row.layer(Integer.MIN_VALUE));
        Check.due("17: the greatest number", 0, () -> row.layer(Integer.MAX_VALUE));
        row.allow(1);
        for (int length = 0; length <= 3; length++) {
            int next = length;
            Check.due("17: one way, " + length, 1, () -> row.layer(next));
        }
        TwistedRow bubble = Rows.loaded(4, "1023;0213;0132");
        int[] inversions = {1, 3, 5, 6, 5, 3, 1, 0};
        for (int length = 0; length < inversions.length; length++) {
            int next = length;
            Check.due("17: as many inversions as " + length, inversions[next], () -> bubble.layer(next));
        }
    }

    private static void present(TwistedRow row, String tiles, int length, String word, long words) {
        Rows.arrange(row, tiles);
        Check.due("18: " + tiles, length, row::length);
        Check.due("19: " + tiles, word, () -> Rows.word(row));
        Check.due("20: " + tiles, words, row::words);
    }

    private static void promise18To20Words() {
        TwistedRow row = Rows.square();
        present(row, "0123", 0, "", 1L);
        present(row, "3012", 1, "1", 1L);
        present(row, "1230", 1, "0", 1L);
        present(row, "2301", 2, "0 0", 2L);
        present(row, "3210", 1, "2", 2L);
        present(row, "1032", 3, "0 0 2", 12L);
        present(row, "1023", -1, "", 0L);
        row.allow(0b1001);
        present(row, "3012", 3, "0 0 0", 2L);
        present(row, "1032", 3, "0 0 3", 2L);
        row.allow(0b1010);
        present(row, "2301", 2, "1 1", 1L);
        present(row, "1230", 3, "1 1 1", 2L);
        row.allow(0);
        present(row, "0123", 0, "", 1L);
        present(row, "3012", -1, "", 0L);
    }

    private static void promise19WordMove() {
        TwistedRow row = Rows.square();
        Rows.arrange(row, "1032");
        long before = row.digest();
        Check.due("19: the first", 0, () -> row.wordMove(0));
        Check.due("19: the last", 2, () -> row.wordMove(2));
        for (int place : new int[] {-1, 3, Integer.MIN_VALUE, Integer.MAX_VALUE}) {
            Check.due("19: place " + place, -1, () -> row.wordMove(place));
        }
        Check.due("19: nothing is changed", before, row::digest);
        Rows.arrange(row, "1023");
        for (int place : new int[] {-2, -1, 0, 1}) {
            Check.due("19: no word, place " + place, -1, () -> row.wordMove(place));
        }
    }

    private static void promise20WordsOfManyKinds() {
        TwistedRow bubble = Rows.loaded(7, "1023456;0213456;0132456;0124356;0123546;0123465");
        Rows.arrange(bubble, "6543210");
        // Stanley's number of reduced words of the longest arrangement, each move in two ways.
        Check.due("20: all ways to reverse 7", 1100742656L << 21, bubble::words);
    }

    /** All shortest words from some tiles to the solved row, where each of two turns can be made in so many ways. */
    static BigInteger waysToSolve(String tiles, String[] turns, int[] ways) {
        Map<String, BigInteger> layer = new HashMap<>();
        Map<String, BigInteger> before = new HashMap<>();
        layer.put(tiles, BigInteger.ONE);
        while (!layer.containsKey("01234567")) {
            Map<String, BigInteger> next = new HashMap<>();
            before.putAll(layer);
            for (Map.Entry<String, BigInteger> one : layer.entrySet()) {
                for (int turn = 0; turn < turns.length; turn++) {
                    StringBuilder moved = new StringBuilder();
                    for (char from : turns[turn].toCharArray()) {
                        moved.append(one.getKey().charAt(from - '0'));
                    }
                    if (!before.containsKey(moved.toString())) {
                        BigInteger more = one.getValue().multiply(BigInteger.valueOf(ways[turn]));
                        next.merge(moved.toString(), more, BigInteger::add);
                    }
                }
            }
            layer = next;
        }
        return layer.get("01234567");
    }

    private static void promise20WordsGoRound() {
        TwistedRow row = Rows.loaded(8, "70123456;70123456;70123456;10234567;10234567;10234567");
        row.allow(0b111111010101);
        for (String tiles : new String[] {"10765432", "12076543"}) {
            BigInteger due = waysToSolve(tiles, new String[] {"70123456", "10234567"}, new int[] {3, 6});
            Check.due("20: more words than a long has", true, () -> due.bitLength() > 64);
            Rows.arrange(row, tiles);
            Check.due("20: words of " + tiles, due.longValue(), row::words);
        }
    }

    private static void phases(TwistedRow row, int moves, int first, int second) {
        long before = row.digest();
        Check.due("21: first phase by " + moves, first, () -> row.phase(moves, 0));
        Check.due("21: second phase by " + moves, second, () -> row.phase(moves, 1));
        Check.due("21: both phases by " + moves, first < 0 ? -1 : first + second, () -> row.phase(moves, 2));
        Check.due("21: nothing is changed", before, row::digest);
    }

    private static void promise21Phase() {
        TwistedRow row = Rows.loaded(4, "3012;1023;0132");
        Rows.arrange(row, "0213");
        // The first word is 0 4; behind 1 2, as short a one, a single move 0 would do.
        phases(row, 1, 2, 3);
        phases(row, 3, 2, 1);
        phases(row, 0, 3, 0);
        phases(row, 63, 0, 3);
        Rows.arrange(row, "2301");
        phases(row, 3, 0, 2);
        phases(row, 2, 0, 2);
        row.allow(0b110010);
        Rows.arrange(row, "3012");
        phases(row, 0b000010, 0, 1);
        phases(row, 0b110000, row.length(), 0);
        Rows.arrange(row, "0123");
        phases(row, 0, 0, 0);
        for (int moves : new int[] {1, 4, 51, 64, -1, 1 << 30, Integer.MIN_VALUE}) {
            Check.refused(row, "21: moves " + moves, ARGUMENT, () -> row.phase(moves, 0));
        }
        for (int what : new int[] {-1, 3, Integer.MIN_VALUE, Integer.MAX_VALUE}) {
            Check.refused(row, "21: what " + what, ARGUMENT, () -> row.phase(0, what));
        }
        TwistedRow square = Rows.square();
        square.exchange(0, 1);
        phases(square, 3, -1, -1);
        phases(square, 0, -1, -1);
        Check.refused(square, "21: wrong moves, no word", ARGUMENT, () -> square.phase(16, 0));
    }

    private static void promise22IfForbidden() {
        TwistedRow row = Rows.square();
        Rows.arrange(row, "1230");
        long before = row.digest();
        Check.due("22: the group without 0", 8, () -> row.ifForbidden(0, 0));
        Check.due("22: the length without 0", 3, () -> row.ifForbidden(0, 1));
        Check.due("22: the length without 1", 1, () -> row.ifForbidden(1, 1));
        Check.due("22: nothing is changed", before, row::digest);
        row.allow(0b0111);
        Check.due("22: the group without 2", 4, () -> row.ifForbidden(2, 0));
        Rows.arrange(row, "1032");
        Check.due("22: no word without 2", -1, () -> row.ifForbidden(2, 1));
        Check.due("22: but one with it", 3, row::length);
        row.allow(0b0100);
        Check.due("22: the group of none", 1, () -> row.ifForbidden(2, 0));
        Check.refused(row, "22: forbidden", STATE, () -> row.ifForbidden(0, 0));
        Check.refused(row, "22: forbidden, and what", ARGUMENT, () -> row.ifForbidden(0, 2));
        for (int what : new int[] {-1, 2, Integer.MIN_VALUE, Integer.MAX_VALUE}) {
            Check.refused(row, "22: what " + what, ARGUMENT, () -> row.ifForbidden(2, what));
        }
        for (int move : new int[] {-1, 4, 32, 34, Integer.MIN_VALUE, Integer.MAX_VALUE}) {
            Check.refused(row, "22: move " + move, INDEX, () -> row.ifForbidden(move, 0));
            Check.refused(row, "22: move " + move + ", and what", INDEX, () -> row.ifForbidden(move, 7));
        }
    }

    private static void promise22KeepsUpWithTheTurns() {
        TwistedRow row = Rows.square();
        Check.due("22: a square without 2", 8, () -> row.ifForbidden(2, 0));
        row.dropTurn();
        row.addTurn(2, 0, 1);
        Check.due("22: another turn", 24, () -> row.ifForbidden(2, 0));
        Check.due("22: its length", 1, () -> {
            row.make(2);
            return row.ifForbidden(2, 1);
        });
    }

    public static void main(String[] args) {
        promise15Group();
        promise16BasicOrbit();
        promise17Layer();
        promise18To20Words();
        promise19WordMove();
        promise20WordsOfManyKinds();
        promise20WordsGoRound();
        promise21Phase();
        promise22IfForbidden();
        promise22KeepsUpWithTheTurns();
        Check.finish();
    }
}
