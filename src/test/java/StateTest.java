import java.util.ArrayList;
import java.util.List;

/** Promises 23 to 28: what there is. */
public final class StateTest {
    private static final Class<? extends RuntimeException> INDEX = IndexOutOfBoundsException.class;
    private static final Class<? extends RuntimeException> ARGUMENT = IllegalArgumentException.class;
    private static final int[] NO_PLACES = {-1, 5, Integer.MIN_VALUE, Integer.MAX_VALUE};

    private static void promise23Tile() {
        TwistedRow row = new TwistedRow();
        row.exchange(1, 4);
        int[] tiles = {0, 4, 2, 3, 1};
        for (int place = 0; place < 5; place++) {
            int next = place;
            Check.due("23: at " + place, tiles[next], () -> row.tile(next));
        }
        for (int place : NO_PLACES) {
            Check.refused(row, "23: place " + place, INDEX, () -> row.tile(place));
        }
        row.begin(8);
        row.begin(3);
        Check.refused(row, "23: place 3 of 3", INDEX, () -> row.tile(3));
    }

    private static void promise24Source() {
        TwistedRow row = Rows.loaded(5, "20143");
        Check.due("24: forwards", 2, () -> row.source(0, 0));
        Check.due("24: backwards", 1, () -> row.source(1, 0));
        Check.due("24: forwards, the last", 3, () -> row.source(0, 4));
        for (int place = 0; place < 5; place++) {
            int next = place;
            Check.due("24: there and back " + place, next, () -> row.source(0, row.source(1, next)));
        }
        for (int place : NO_PLACES) {
            Check.refused(row, "24: place " + place, INDEX, () -> row.source(0, place));
        }
        for (int move : new int[] {-1, 2, Integer.MIN_VALUE, Integer.MAX_VALUE}) {
            Check.refused(row, "24: move " + move, INDEX, () -> row.source(move, 0));
        }
        row.allow(0);
        Check.due("24: of a forbidden move", 2, () -> row.source(0, 0));
    }

    private static void promise25Commute() {
        TwistedRow row = Rows.loaded(5, "10234;01243;02134;12034");
        Check.due("25: apart", true, () -> row.commute(0, 2));
        Check.due("25: sharing a place", false, () -> row.commute(0, 4));
        Check.due("25: the other way round", false, () -> row.commute(4, 0));
        Check.due("25: with itself", true, () -> row.commute(6, 6));
        Check.due("25: with its inverse", true, () -> row.commute(6, 7));
        Check.due("25: an exchange and three on", false, () -> row.commute(7, 0));
        row.allow(0);
        Check.due("25: forbidden ones", true, () -> row.commute(1, 3));
        for (int move : new int[] {-1, 8, Integer.MIN_VALUE, Integer.MAX_VALUE}) {
            Check.refused(row, "25: one " + move, INDEX, () -> row.commute(move, 0));
            Check.refused(row, "25: other " + move, INDEX, () -> row.commute(0, move));
        }
    }

    private static void promise26Count() {
        TwistedRow row = Rows.loaded(6, "102345;345012");
        row.allow(13);
        Check.due("26: places", 6, () -> row.count(0));
        Check.due("26: turns", 2, () -> row.count(1));
        Check.due("26: allowed moves", 13, () -> row.count(2));
        Check.due("26: tiles at home", 6, () -> row.count(3));
        Check.due("26: even", 1, () -> row.count(4));
        row.exchange(0, 5);
        Check.due("26: four at home", 4, () -> row.count(3));
        Check.due("26: odd", 0, () -> row.count(4));
        row.exchange(0, 2);
        Check.due("26: three at home", 3, () -> row.count(3));
        Check.due("26: even again", 1, () -> row.count(4));
        for (int what : new int[] {-1, 5, Integer.MIN_VALUE, Integer.MAX_VALUE}) {
            Check.refused(row, "26: what " + what, ARGUMENT, () -> row.count(what));
        }
    }

    private static void promise27MeanLength() {
        TwistedRow row = Rows.square();
        row.exchange(0, 1);
        Check.due("27: of the square", 1.5, row::meanLength);
        row.allow(3);
        Check.due("27: of four", 1.0, row::meanLength);
        row.allow(4);
        Check.due("27: of two", 0.5, row::meanLength);
        row.allow(0);
        Check.due("27: of one", 0.0, row::meanLength);
        Check.due("27: of three", 2.0 / 3.0, () -> Rows.loaded(3, "201").meanLength());
        Check.due("27: of fifteen", 7.0, () -> {
            TwistedRow one = Rows.loaded(8, "12045673");
            one.allow(1);
            return one.meanLength();
        });
        Check.due("27: of as many lengths as inversions", 14.0,
            () -> Rows.loaded(8, "10234567;02134567;01324567;01243567;01235467;01234657").meanLength() + 3.5);
    }

    /** What is hashed, in the document's order, as the other calls answer it. */
    static List<Long> valuesOf(TwistedRow row, String input) {
        List<Long> values = new ArrayList<>();
        for (int what = 0; what <= 4; what++) {
            values.add((long) row.count(what));
        }
        for (int place = 0; place < row.count(0); place++) {
            values.add((long) row.tile(place));
        }
        for (int move = 0; move < 2 * row.count(1); move++) {
            for (int place = 0; place < row.count(0); place++) {
                values.add((long) row.source(move, place));
            }
        }
        for (int what = 0; what <= 3; what++) {
            values.add((long) row.group(what));
        }
        for (int place = 0; place < row.count(0); place++) {
            values.add((long) row.basicOrbit(place));
        }
        for (int length = 0; length <= 9; length++) {
            values.add((long) row.layer(length));
        }
        values.add((long) row.length());
        values.add(row.words());
        for (int place = 0; place < row.length(); place++) {
            values.add((long) row.wordMove(place));
        }
        values.add(Double.doubleToLongBits(row.meanLength()));
        values.add((long) input.length());
        for (char code : input.toCharArray()) {
            values.add((long) code);
        }
        return values;
    }

    private static long digestOf(TwistedRow row, String input) {
        long hash = 2011L;
        for (long value : valuesOf(row, input)) {
            hash = 31L * hash + value;
        }
        return hash;
    }

    private static void promise28Digest() {
        TwistedRow row = new TwistedRow();
        Check.due("28: a new row", digestOf(row, ""), row::digest);
        Rows.type(row, "3012;3210");
        Check.due("28: with input", digestOf(row, "3012;3210"), row::digest);
        row.begin(4);
        row.load();
        for (String tiles : new String[] {"0123", "1032", "2301", "1023"}) {
            Rows.arrange(row, tiles);
            for (int allowed = 0; allowed < 16; allowed++) {
                row.allow(allowed);
                Check.due("28: " + tiles + " with " + allowed, digestOf(row, ""), row::digest);
            }
        }
        TwistedRow large = Rows.loaded(8, "70123456;10234567");
        large.exchange(2, 7);
        Rows.type(large, "ab~ ");
        Check.due("28: a large one", digestOf(large, "ab~ "), large::digest);
        long before = large.digest();
        Check.due("28: nothing is changed", before, large::digest);
    }

    public static void main(String[] args) {
        promise23Tile();
        promise24Source();
        promise25Commute();
        promise26Count();
        promise27MeanLength();
        promise28Digest();
        Check.finish();
    }
}
