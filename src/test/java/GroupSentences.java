/** The sentences of the promises 15 to 17: the group. */
final class GroupSentences extends Sentences {
    /** Turns that exchange neighbours, of the first seven places. */
    private static final String NEIGHBOURS = "10234567;02134567;01324567;01243567;01235467;01234657";

    static void all() {
        group();
        groupOrbitsAndLengths();
        basicOrbit();
        layer();
    }

    private static TwistedRow allowing(int places, String turns, int allowed) {
        TwistedRow row = Rows.loaded(places, turns);
        row.allow(allowed);
        return row;
    }

    private static void number(String what, int due, int places, String turns, int of) {
        leaves(what, due, () -> Rows.loaded(places, turns), row -> row.group(of));
    }

    private static void group() {
        promise(15, "Returns a number of the group.", () -> {
            leaves("of the allowed moves", 3, Rows::busy, row -> {
                row.allow(1);
                int order = row.group(0);
                row.allow(0b0111);
                return order;
            });
            leaves("the arrangement is not in it", 8, Rows::full, row -> row.group(0));
        });
        promise(15, "`what`: 0 for its order", () -> {
            for (int places = 3; places <= 8; places++) {
                int[] factorials = {6, 24, 120, 720, 5040, 40320};
                String all = "01234567".substring(0, places);
                number("no moves, " + places, 1, places, "", 0);
                number("a turn of nothing, " + places, 1, places, all, 0);
                number("all of " + places, factorials[places - 3], places, all.substring(1) + "0;10" + all.substring(2), 0);
                number("one turn of all " + places, places, places, all.substring(1) + "0", 0);
            }
            number("fifteen", 15, 8, "12340675", 0);
            number("a half of all", 20160, 8, "12034567;02345671", 0);
            due("all are forbidden", 1, () -> allowing(8, "12345670;10234567", 0).group(0));
            due("forwards only", 8, () -> allowing(8, "12345670", 1).group(0));
        });
        promise(15, "Returns the number.", () -> {
            int[] numbers = {6, 2, 2, 3};
            for (int what = 0; what <= 3; what++) {
                int next = what;
                leaves("number " + what, numbers[what], Rows::busy, row -> row.group(next));
            }
        });
        promise(15, "Throws `IllegalArgumentException` if what is not 0 to 3", () -> {
            for (int what : new int[] {-1, 4, 5, LEAST, GREATEST}) {
                refused("what " + what, ARGUMENT, Rows::busy, row -> row.group(what));
                refused("what " + what + ", new", ARGUMENT, TwistedRow::new, row -> row.group(what));
                refused("what " + what + ", six turns", ARGUMENT, () -> Rows.crowded(5), row -> row.group(what));
            }
            due("0 is taken", 1, () -> new TwistedRow().group(0));
            due("3 is taken", 1, () -> new TwistedRow().group(3));
        });
    }

    private static void groupOrbitsAndLengths() {
        promise(15, "1 for the number of orbits of the allowed moves", () -> {
            number("as many as places, 3", 3, 3, "", 1);
            number("as many as places, 8", 8, 8, "", 1);
            number("one, of 8", 1, 8, "12345670", 1);
            number("two pairs and two that stay", 4, 6, "103245", 1);
            number("two that alternate", 2, 4, "2301", 1);
            number("three that alternate, and one that stays", 4, 7, "3450126", 1);
            number("two turns that share no place", 2, 6, "120345;012453", 1);
            number("two turns that share one place", 2, 6, "120345;013425", 1);
            number("joined from behind to the front", 1, 8, "01234576;01234657;01235467;01243567;01324567;12034567", 1);
            due("a forbidden turn does not join", 4, () -> allowing(6, "120345;013425", 0b0001).group(1));
            due("nor does the other one", 4, () -> allowing(6, "120345;013425", 0b1000).group(1));
            due("one move of each joins", 2, () -> allowing(6, "120345;013425", 0b1001).group(1));
            due("all are forbidden", 6, () -> allowing(6, "120345;013425", 0).group(1));
        });
        promise(15, "2 for the greatest length of its arrangements", () -> {
            number("no moves", 0, 5, "", 2);
            number("a turn of nothing", 0, 5, "01234", 2);
            number("one of two", 1, 5, "10234", 2);
            number("both ways round", 4, 8, "12345670", 2);
            due("one way round", 7, () -> allowing(8, "12345670", 2).group(2));
            due("one way round, fifteen", 14, () -> allowing(8, "12340675", 1).group(2));
            number("all inversions of 7", 21, 7, "1023456;0213456;0132456;0124356;0123546;0123465", 2);
        });
        promise(15, "3 for the number of even arrangements in it", () -> {
            number("no moves", 1, 5, "", 3);
            number("a turn of nothing", 1, 5, "01234", 3);
            number("the solved row, not the other", 1, 5, "10234", 3);
            number("all of them", 20160, 8, "12034567;02345671", 3);
            number("a half of them", 20160, 8, "12345670;10234567", 3);
            number("an odd turn besides an even one", 3, 5, "12034;01243", 3);
            due("the odd one is forbidden", 3, () -> allowing(5, "12034;01243", 0b0010).group(3));
            due("one odd move is enough", 3, () -> allowing(5, "12034;01243", 0b1001).group(3));
            due("of both parities by the first move", 2, () -> allowing(4, "1230", 1).group(3));
            due("of both parities by its inverse", 2, () -> allowing(4, "1230", 2).group(3));
            due("the last of six turns is odd", 1, () -> allowing(5, "01234;01234;01234;01234;01234;01243", 1 << 11).group(3));
            due("the last of six turns is even", 3, () -> allowing(5, "10234;10234;10234;10234;10234;12034", 3 << 10).group(3));
        });
    }

    private static void basicOrbit() {
        promise(16, "Returns a basic orbit.", () -> {
            leaves("not that of the present arrangement", 0b0111, Rows::busy, row -> row.basicOrbit(0));
            due("of the allowed moves", 1, () -> allowing(5, "12034", 0).basicOrbit(0));
            due("forwards only", 7, () -> allowing(5, "12034", 1).basicOrbit(0));
        });
        promise(16, "`place`: number of the place", () -> {
            for (int places = 3; places <= 8; places++) {
                int last = places - 1;
                String all = "01234567".substring(0, places);
                String turns = all.substring(1) + "0;10" + all.substring(2);
                due("the first of " + places, (1 << places) - 1, () -> Rows.loaded(last + 1, turns).basicOrbit(0));
                due("the last but one of " + places, 3 << (last - 1), () -> Rows.loaded(last + 1, turns).basicOrbit(last - 1));
                due("the last of " + places, 1 << last, () -> Rows.loaded(last + 1, turns).basicOrbit(last));
            }
        });
        promise(16, "Returns its places, as a bit mask.", () -> {
            due("all but two", 0b11111001, () -> Rows.loaded(8, "72103456").basicOrbit(0));
            due("the two that are exchanged", 0b00000110, () -> Rows.loaded(8, "02134567").basicOrbit(1));
            for (int place = 0; place < 8; place++) {
                int next = place;
                due("no moves, " + place, 1 << place, () -> Rows.loaded(8, "").basicOrbit(next));
            }
            TwistedRow square = Rows.square();
            int[] orbits = {15, 10, 4, 8};
            for (int place = 0; place < 4; place++) {
                int next = place;
                due("of the square, " + place, orbits[place], () -> square.basicOrbit(next));
            }
        });
        promise(16, "Throws `IndexOutOfBoundsException` if the place does not exist", () -> {
            for (int places = 3; places <= 8; places++) {
                int count = places;
                for (int place : new int[] {-1, places, 9, LEAST, GREATEST}) {
                    refused("place " + place + " of " + places, INDEX, () -> Rows.crowded(count), row -> row.basicOrbit(place));
                }
            }
            refused("without turns", INDEX, TwistedRow::new, row -> row.basicOrbit(5));
        });
    }

    private static void layer() {
        promise(17, "Counts the arrangements of a length.", () -> {
            int[] counts = {1, 3, 2};
            for (int length = 0; length < counts.length; length++) {
                int next = length;
                leaves("of " + length, counts[length], Rows::busy, row -> row.layer(next));
            }
        });
        promise(17, "`length`: the length", () -> {
            due("0", 1, () -> Rows.busy().layer(0));
            due("the greatest length", 2, () -> Rows.busy().layer(2));
            due("one more than that", 0, () -> Rows.busy().layer(3));
            due("the greatest number", 0, () -> Rows.busy().layer(GREATEST));
            TwistedRow row = Rows.loaded(8, NEIGHBOURS);
            int[] inversions = {1, 6, 20, 49};
            for (int length = 0; length < inversions.length; length++) {
                int next = length;
                due("so many inversions of 7, " + length, inversions[length], () -> row.layer(next));
            }
            due("all inversions of 7", 1, () -> row.layer(21));
            due("one more than those", 0, () -> row.layer(22));
        });
        promise(17, "Returns how many arrangements of the group have it", () -> {
            due("no moves, 0", 1, () -> new TwistedRow().layer(0));
            due("no moves, 1", 0, () -> new TwistedRow().layer(1));
            due("a row that is not in the group counts nowhere", 8, () -> {
                int sum = 0;
                for (int length = -1; length <= 10; length++) {
                    sum += Rows.full().layer(length);
                }
                return sum;
            });
            for (int length = 0; length <= 14; length++) {
                int next = length;
                due("one way, " + length, 1, () -> allowing(8, "12340675", 2).layer(next));
            }
            due("one way, 15", 0, () -> allowing(8, "12340675", 2).layer(15));
        });
        promise(17, "; 0 for a negative length.", () -> {
            for (int length : new int[] {-1, -2, LEAST, LEAST + 1}) {
                leaves("length " + length, 0, Rows::busy, row -> row.layer(length));
                leaves("length " + length + ", not to be solved", 0, Rows::full, row -> row.layer(length));
                leaves("length " + length + ", no turns", 0, TwistedRow::new, row -> row.layer(length));
            }
        });
    }
}
