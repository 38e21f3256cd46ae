/** Promises 9 to 14: the input buffer. */
public final class InputTest {
    private static final Class<? extends RuntimeException> ARGUMENT = IllegalArgumentException.class;
    private static final Class<? extends RuntimeException> STATE = IllegalStateException.class;

    private static void promise9Append() {
        TwistedRow row = new TwistedRow();
        Check.due("9: the first", 1, () -> row.append(32));
        Check.due("9: the second", 2, () -> row.append(126));
        for (int code : new int[] {31, 127, -1, 0, 65536 + 65, Integer.MIN_VALUE, Integer.MAX_VALUE}) {
            Check.refused(row, "9: code " + code, ARGUMENT, () -> row.append(code));
        }
        for (int length = 3; length <= 60; length++) {
            int next = length;
            Check.due("9: up to " + length, next, () -> row.append(97));
        }
        Check.refused(row, "9: a 61st", STATE, () -> row.append(97));
        Check.refused(row, "9: a wrong 61st", ARGUMENT, () -> row.append(127));
        Check.due("9: there are 60", 60, row::clearInput);
        Check.due("9: and room again", 1, () -> row.append(97));
    }

    private static void promise10ClearInput() {
        TwistedRow row = new TwistedRow();
        Check.due("10: an empty one", 0, row::clearInput);
        Rows.type(row, "x;1");
        Check.due("10: three", 3, row::clearInput);
        Check.due("10: empty then", 0, row::clearInput);
        Check.due("10: no error is left", 0, () -> row.firstError(true));
    }

    private static void errorOfTurns(String what, int before, String text, int due) {
        TwistedRow row = new TwistedRow();
        for (int turn = 0; turn < before; turn++) {
            row.addTurn(2, 0, 1);
        }
        Rows.type(row, text);
        Check.due("11: turns, " + what, due, () -> row.firstError(false));
        boolean whole = due == text.length() && !text.isEmpty() && (text.length() + 1) % 6 == 0;
        if (whole) {
            Check.due("12: loads, " + what, before + (text.length() + 1) / 6, row::load);
        } else {
            Check.refused(row, "12: refuses, " + what, ARGUMENT, row::load);
        }
    }

    private static void promise11FirstErrorOfTurns() {
        errorOfTurns("nothing", 0, "", 0);
        errorOfTurns("nothing behind 6", 6, "", 0);
        errorOfTurns("a turn", 0, "10234", 5);
        errorOfTurns("a part of one", 0, "1023", 4);
        errorOfTurns("two turns", 0, "10234;43210", 11);
        errorOfTurns("one and a part", 0, "10234;432", 9);
        errorOfTurns("an open end", 0, "10234;", 6);
        errorOfTurns("a digit of no place", 0, "105", 2);
        errorOfTurns("a digit twice", 0, "10214", 3);
        errorOfTurns("a digit of the turn before", 0, "10234;14320", 11);
        errorOfTurns("a digit too many", 0, "102340", 5);
        errorOfTurns("an early separator", 0, "1023;", 4);
        errorOfTurns("a separator in front", 0, ";10234", 0);
        errorOfTurns("two separators", 0, "10234;;", 6);
        errorOfTurns("a letter", 0, "1a234", 1);
        errorOfTurns("a space in front", 0, " 10234", 0);
        errorOfTurns("a space behind", 0, "10234 ", 5);
        errorOfTurns("a sign below the digits", 0, "/", 0);
        errorOfTurns("a sign above the digits", 0, "10:", 2);
        errorOfTurns("six turns", 0, "10234;43210;01234;01243;01324;02134", 35);
        errorOfTurns("a separator behind six", 0, "10234;43210;01234;01243;01324;02134;", 35);
        errorOfTurns("a sixth turn", 5, "10234", 5);
        errorOfTurns("a separator behind the sixth", 5, "10234;", 5);
        errorOfTurns("two behind four", 4, "10234;43210", 11);
        errorOfTurns("three behind four", 4, "10234;43210;0", 11);
        errorOfTurns("a digit behind six", 6, "1", 0);
        errorOfTurns("a separator when there are six", 6, ";", 0);
    }

    private static void errorOfWord(String what, int turns, String text, int due) {
        TwistedRow row = new TwistedRow();
        for (int turn = 0; turn < turns; turn++) {
            row.addTurn(2, 0, 1);
        }
        row.allow(0);
        Rows.type(row, text);
        Check.due("11: word, " + what, due, () -> row.firstError(true));
        if (due < text.length() || text.isEmpty()) {
            Check.refused(row, "13: refuses, " + what, ARGUMENT, row::run);
            Check.refused(row, "14: refuses, " + what, ARGUMENT, row::order);
        } else {
            Check.refused(row, "13: forbidden, " + what, STATE, row::run);
        }
    }

    private static void promise11FirstErrorOfWord() {
        errorOfWord("nothing", 2, "", 0);
        errorOfWord("two letters, forbidden ones", 2, "abAB", 4);
        errorOfWord("no turns", 0, "a", 0);
        errorOfWord("a letter of no turn", 2, "abc", 2);
        errorOfWord("a great letter of no turn", 2, "aBC", 2);
        errorOfWord("the sixth", 6, "afF", 3);
        errorOfWord("a seventh", 6, "afg", 2);
        errorOfWord("a great seventh", 6, "afFG", 3);
        errorOfWord("a space", 2, "a b", 1);
        errorOfWord("a digit", 2, "0", 0);
        errorOfWord("the sign below a", 2, "`", 0);
        errorOfWord("the sign below A", 2, "a@", 1);
        errorOfWord("a separator", 2, "a;b", 1);
    }

    private static void promise12Load() {
        TwistedRow row = new TwistedRow();
        row.exchange(0, 1);
        row.addTurn(2, 0, 1);
        row.allow(1);
        Rows.type(row, "20143;43210");
        Check.due("12: three turns then", 3, row::load);
        Check.due("12: the first stays", "10234", () -> Rows.sources(row, 0));
        Check.due("12: the second", "20143", () -> Rows.sources(row, 2));
        Check.due("12: the second backwards", "12043", () -> Rows.sources(row, 3));
        Check.due("12: the third", "43210", () -> Rows.sources(row, 4));
        Check.due("12: its moves are allowed", 0b111101, () -> row.count(2));
        Check.due("12: the tiles stay", "10234", () -> Rows.tiles(row));
        Check.due("12: the buffer is clear", 0, row::clearInput);
        TwistedRow large = Rows.loaded(8, "76543210;70123456;01234567;10234567;02134567;01324567");
        Check.due("12: six turns of 8 places", 6, () -> large.count(1));
        Check.due("12: the last of them", "01324567", () -> Rows.sources(large, 10));
        TwistedRow small = Rows.loaded(3, "201");
        Rows.type(small, "3");
        Check.refused(small, "12: no place 3", ARGUMENT, small::load);
    }

    private static void promise13Run() {
        TwistedRow row = Rows.loaded(4, "3012;1023");
        Rows.type(row, "abA");
        Check.due("13: three moves", 3, row::run);
        Check.due("13: one behind the other", "3120", () -> Rows.tiles(row));
        Check.due("13: the buffer is clear", 0, row::clearInput);
        Rows.type(row, "bB");
        Check.due("13: two moves", 2, row::run);
        Check.due("13: from where it was", "3120", () -> Rows.tiles(row));
        row.allow(0b1101);
        Rows.type(row, "abA");
        Check.refused(row, "13: the last one is forbidden", STATE, row::run);
        Rows.type(row, "c");
        Check.refused(row, "13: forbidden, and no word", ARGUMENT, row::run);
        Check.due("13: the buffer stays", 4, row::clearInput);
        Check.refused(row, "13: an empty buffer", ARGUMENT, row::run);
        row.allow(0b1110);
        Rows.type(row, "aA");
        Check.refused(row, "13: the first one is forbidden", STATE, row::run);
        TwistedRow second = Rows.loaded(4, "1023;3012");
        Rows.type(second, "b");
        second.run();
        Check.due("13: the second turn", "3012", () -> Rows.tiles(second));
        Rows.type(second, "BB");
        second.run();
        Check.due("13: the second turn backwards", "1230", () -> Rows.tiles(second));
    }

    private static void order(int places, String turns, String word, int due) {
        TwistedRow row = Rows.loaded(places, turns);
        row.exchange(0, 2);
        row.allow(0);
        Rows.type(row, word);
        long before = row.digest();
        Check.due("14: " + turns + " " + word, due, row::order);
        Check.due("14: nothing is changed", before, row::digest);
        Check.due("14: the buffer stays", word.length(), row::clearInput);
    }

    private static void promise14Order() {
        order(4, "3012;1023", "a", 4);
        order(4, "3012;1023", "A", 4);
        order(4, "3012;1023", "aa", 2);
        order(4, "3012;1023", "aA", 1);
        order(4, "3012;1023", "ab", 3);
        order(4, "3012;1023", "aaaa", 1);
        order(5, "10342", "a", 6);
        order(8, "12045673", "a", 15);
        order(8, "12045673", "aaa", 5);
        order(8, "12345670", "a", 8);
        order(3, "012", "a", 1);
        TwistedRow row = Rows.square();
        Check.refused(row, "14: an empty buffer", ARGUMENT, row::order);
        Rows.type(row, "ac");
        Check.refused(row, "14: no word", ARGUMENT, row::order);
    }

    private static void promise11To14FullBuffer() {
        TwistedRow row = Rows.loaded(4, "3012");
        for (int i = 0; i < 60; i++) {
            row.append(i < 59 ? 'a' : 'A');
        }
        Check.due("11: a full buffer is a word", 60, () -> row.firstError(true));
        Check.due("14: of 58 turns", 2, row::order);
        Check.due("13: all 60 moves", 60, row::run);
        Check.due("13: two turns are left of them", "2301", () -> Rows.tiles(row));
        TwistedRow full = new TwistedRow();
        Rows.type(full, "01234;01234;01234;01234;01234;01234");
        while (full.append(' ') < 60) {
            Check.due("11: a space is behind the last turn", 35, () -> full.firstError(false));
        }
        Check.due("11: also in a full buffer", 35, () -> full.firstError(false));
        Check.refused(full, "12: a full buffer", ARGUMENT, full::load);
    }

    public static void main(String[] args) {
        promise9Append();
        promise10ClearInput();
        promise11FirstErrorOfTurns();
        promise11FirstErrorOfWord();
        promise12Load();
        promise13Run();
        promise14Order();
        promise11To14FullBuffer();
        Check.finish();
    }
}
