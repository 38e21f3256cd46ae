import java.util.List;

/** The sentences on input: those of "Terms", and those of the promises 9 to 14. */
final class InputSentences extends Sentences {
    private static final String[] TURNS_OF_5 = {"12340", "43210", "10234", "02134", "01324", "01243", "01234"};

    static void all() {
        buffer();
        textsOfTurns();
        textsOfWords();
        syntaxErrors();
        syntaxErrorsOfSixTurns();
        wholeTexts();
        append();
        clearInput();
        firstError();
        load();
        run();
        order();
    }

    private static TwistedRow holding(int places, int turns, String text) {
        TwistedRow row = Rows.withTurns(places, turns);
        Rows.type(row, text);
        return row;
    }

    private static void turnsError(int places, int turns, String text, int due) {
        due("\"" + text + "\" as turns of " + places + " behind " + turns, due,
            () -> holding(places, turns, text).firstError(false));
    }

    private static void wordError(int turns, String text, int due) {
        due("\"" + text + "\" as a word of " + turns + " turns", due, () -> holding(5, turns, text).firstError(true));
    }

    private static String firstTurns(int count) {
        return String.join(";", List.of(TURNS_OF_5).subList(0, count));
    }

    private static void buffer() {
        term("The input buffer has at most 60 characters.", () -> {
            TwistedRow row = new TwistedRow();
            Rows.fill(row, "a", 59);
            due("a 60th is taken", 60, () -> row.append(97));
            refused("a 61st", STATE, Rows::full, full -> full.append(97));
            due("60 are held", 60, () -> Rows.full().clearInput());
        });
        term("It is read as turns or as a word.", () -> {
            due("turns, as turns", 5, () -> holding(5, 1, "12340").firstError(false));
            due("turns, as a word", 0, () -> holding(5, 1, "12340").firstError(true));
            due("a word, as turns", 0, () -> holding(5, 1, "aA").firstError(false));
            due("a word, as a word", 2, () -> holding(5, 1, "aA").firstError(true));
        });
    }

    private static void textsOfTurns() {
        term("A text of turns is one or more turns separated by \";\"", () -> {
            refused("no turn", ARGUMENT, TwistedRow::new, TwistedRow::load);
            for (int count = 1; count <= 6; count++) {
                int turns = count;
                due("turns: " + count, count, () -> holding(5, 0, firstTurns(turns)).load());
            }
            turnsError(5, 0, "1234043210", 5);
            turnsError(5, 0, "12340,43210", 5);
            turnsError(5, 0, "12340;43210", 11);
            refused("separated by nothing", ARGUMENT, () -> holding(5, 0, "1234043210"), TwistedRow::load);
            refused("separated by a comma", ARGUMENT, () -> holding(5, 0, "12340,43210"), TwistedRow::load);
            refused("separated twice", ARGUMENT, () -> holding(5, 0, "12340;;43210"), TwistedRow::load);
            refused("a separator in front", ARGUMENT, () -> holding(5, 0, ";12340"), TwistedRow::load);
        });
        term("; a turn is written as the digits s(0), s(1), and so on, of all places.", () -> {
            for (int places = 3; places <= 8; places++) {
                int count = places;
                String text = "12345670".substring(0, places - 1) + "0";
                due("of " + places, text, () -> Rows.sources(Rows.loaded(count, text), 0));
                due("all that " + places + " have", places, () -> holding(count, 0, text).firstError(false));
                refused("one less than " + places, ARGUMENT, () -> holding(count, 0, text.substring(1)), TwistedRow::load);
                refused("one more than " + places, ARGUMENT, () -> holding(count, 0, text + count), TwistedRow::load);
            }
        });
    }

    private static void textsOfWords() {
        term("A word is one or more moves without anything between them", () -> {
            refused("no move", ARGUMENT, () -> holding(5, 2, ""), TwistedRow::run);
            due("one move", 1, () -> holding(5, 2, "a").run());
            due("sixty moves", 60, () -> {
                TwistedRow row = Rows.withTurns(5, 2);
                Rows.fill(row, "aBbA", 15);
                return row.run();
            });
            for (String between : new String[] {" ", ";", ",", "0", "\""}) {
                refused("\"" + between + "\" between", ARGUMENT, () -> holding(5, 2, "a" + between + "b"), TwistedRow::run);
            }
        });
        term("; the moves of the turn t are written as the letter with the number t from 'a' on, forwards, and as the same "
            + "letter from 'A' on, backwards.", () -> {
                String[] words = {"a", "b", "c", "d", "e", "f"};
                for (int turn = 0; turn < 6; turn++) {
                    // All turns before the last one let the tiles where they are.
                    TwistedRow row = Rows.loaded(3, "012;".repeat(turn) + "120");
                    Rows.type(row, words[turn]);
                    row.run();
                    due("forwards, " + words[turn], "120", () -> Rows.tiles(row));
                    TwistedRow back = Rows.loaded(3, "012;".repeat(turn) + "120" + ";012".repeat(5 - turn));
                    Rows.type(back, words[turn].toUpperCase());
                    back.run();
                    due("backwards, " + words[turn], "201", () -> Rows.tiles(back));
                }
            });
    }

    private static void syntaxErrors() {
        term("The buffer is read from left to right, and a character that these rules do not allow at its place is a syntax error",
            () -> {
                for (int code = 32; code <= 126; code++) {
                    String sign = String.valueOf((char) code);
                    boolean digit = code >= '0' && code <= '4';
                    turnsError(5, 1, sign, digit ? 1 : 0);
                    turnsError(5, 1, "12340" + sign, code == ';' ? 6 : 5);
                    turnsError(5, 1, "12340;" + sign, digit ? 7 : 6);
                    turnsError(5, 1, "1234" + sign, code == '0' ? 5 : 4);
                    boolean letter = "abAB".contains(sign);
                    wordError(2, sign, letter ? 1 : 0);
                    wordError(2, "aB" + sign, letter ? 3 : 2);
                }
                for (int places = 3; places <= 8; places++) {
                    turnsError(places, 0, String.valueOf(places - 1), 1);
                    turnsError(places, 0, String.valueOf(places), 0);
                    turnsError(places, 0, "0" + places, 1);
                }
                turnsError(5, 0, "1x;", 1);
                turnsError(5, 0, "12;", 2);
                turnsError(5, 0, "1;x", 1);
                wordError(1, "aba", 1);
            });
        term("for turns also a digit that the turn has already", () -> {
            turnsError(5, 0, "00", 1);
            turnsError(5, 0, "01230", 4);
            turnsError(5, 0, "44", 1);
            turnsError(8, 0, "76543217", 7);
            turnsError(8, 0, "7654321;", 7);
            turnsError(3, 0, "012;011", 6);
            turnsError(5, 0, "12340;12340", 11);
            turnsError(5, 0, "12340;04321", 11);
        });
        term("for words also the letter of a turn that does not exist", () -> {
            for (int turns = 0; turns <= 6; turns++) {
                for (int turn = 0; turn < 26; turn++) {
                    int due = turn < turns ? 1 : 0;
                    wordError(turns, String.valueOf((char) ('a' + turn)), due);
                    wordError(turns, String.valueOf((char) ('A' + turn)), due);
                }
                for (String beside : new String[] {"`", "@", "{", "["}) {
                    wordError(turns, beside, 0);
                }
            }
            due("the letter of a dropped turn", 1, () -> {
                TwistedRow row = holding(5, 2, "ab");
                row.dropTurn();
                return row.firstError(true);
            });
        });
        term("; forbidden moves are allowed there).", () -> {
            TwistedRow row = holding(5, 6, "aAbBcCdDeEfF");
            row.allow(0);
            due("all of them", 12, () -> row.firstError(true));
        });
    }

    private static void syntaxErrorsOfSixTurns() {
        term(", and a \";\" behind the last one of 6 turns, those that there are included", () -> {
            for (int turns = 0; turns <= 5; turns++) {
                String sixth = firstTurns(6 - turns);
                turnsError(5, turns, sixth, sixth.length());
                turnsError(5, turns, sixth + ";", sixth.length());
                turnsError(5, turns, sixth + ";0", sixth.length());
                if (turns < 5) {
                    String fifth = firstTurns(5 - turns);
                    turnsError(5, turns, fifth + ";", fifth.length() + 1);
                    turnsError(5, turns, fifth + ";1", fifth.length() + 2);
                }
            }
            turnsError(8, 0, "76543210;76543210;76543210;76543210;76543210;76543210;", 53);
            turnsError(8, 0, "76543210;76543210;76543210;76543210;76543210;", 45);
            due("dropping a turn makes room", 6, () -> {
                TwistedRow row = holding(5, 5, "01234;");
                row.dropTurn();
                return row.firstError(false);
            });
        });
        term(", or a digit if there are 6 already", () -> {
            for (String text : new String[] {"0", "12340", "4;", "5", ";", "a"}) {
                turnsError(5, 6, text, 0);
            }
            turnsError(5, 6, "", 0);
            turnsError(5, 5, "0", 1);
            turnsError(5, 5, "12340", 5);
        });
    }

    private static void wholeTexts() {
        term("A buffer without a syntax error is a text of turns if it ends with the last digit of a turn (so not with \";\"), "
            + "and a word if it is not empty.", () -> {
                for (String text : new String[] {"", "1", "1234", "12340;", "12340;4", "12340;4321"}) {
                    due("\"" + text + "\" has no error", text.length(), () -> holding(5, 0, text).firstError(false));
                    refused("\"" + text + "\" as turns", ARGUMENT, () -> holding(5, 0, text), TwistedRow::load);
                }
                due("a turn", 1, () -> holding(5, 0, "12340").load());
                due("two turns", 2, () -> holding(5, 0, "12340;43210").load());
                due("an empty one has no error", 0, () -> holding(5, 1, "").firstError(true));
                refused("an empty one is not carried out", ARGUMENT, () -> holding(5, 1, ""), TwistedRow::run);
                refused("an empty one has no order", ARGUMENT, () -> holding(5, 1, ""), TwistedRow::order);
                due("a letter is carried out", 1, () -> holding(5, 1, "a").run());
                due("a letter has an order", 2, () -> holding(5, 1, "a").order());
            });
    }

    private static void append() {
        promise(9, "Appends a character to the input buffer.", () -> {
            for (int code = 32; code <= 126; code++) {
                int next = code;
                TwistedRow row = holding(5, 2, "a");
                // The digest's last values: the length, then the codes.
                long before = row.digest() - 97 - 31;
                row.append(code);
                due("code " + code, (before + 62 + 97) * 31 + next, row::digest);
            }
            TwistedRow row = holding(5, 2, "bA");
            row.append('b');
            due("behind those that are there", 3, row::run);
            due("all of them are carried out", "10234", () -> Rows.tiles(row));
        });
        promise(9, "`code`: the character code", () -> {
            due("the least, a space", 1, () -> new TwistedRow().append(32));
            due("the greatest, a tilde", 1, () -> new TwistedRow().append(126));
            due("a digit is taken as it is", 1, () -> {
                TwistedRow row = new TwistedRow();
                row.append(48);
                return row.firstError(false);
            });
        });
        promise(9, "Returns the new length of the buffer.", () -> {
            TwistedRow row = new TwistedRow();
            for (int length = 1; length <= 60; length++) {
                due("the character " + length, length, () -> row.append(65));
            }
            row.clearInput();
            due("behind clearInput", 1, () -> row.append(65));
        });
        promise(9, "Throws `IllegalArgumentException` if code is not 32 to 126", () -> {
            for (int code : new int[] {31, 127, 0, -1, 10, 128, 160, 255, 256 + 65, 65536 + 65, -65, LEAST, GREATEST}) {
                refused("code " + code, ARGUMENT, Rows::busy, row -> row.append(code));
                refused("code " + code + ", first", ARGUMENT, TwistedRow::new, row -> row.append(code));
                refused("code " + code + ", a 61st", ARGUMENT, Rows::full, row -> row.append(code));
            }
        });
        promise(9, "Throws `IllegalStateException` if the buffer has 60 characters", () -> {
            for (int code : new int[] {32, 97, 126}) {
                refused("code " + code, STATE, Rows::full, row -> row.append(code));
            }
            TwistedRow row = new TwistedRow();
            Rows.fill(row, " ", 59);
            due("59 are too few for that", 60, () -> row.append(126));
            due("60 are not", STATE, () -> row.append(126));
            row.clearInput();
            due("none are too few again", 1, () -> row.append(126));
        });
    }

    private static void clearInput() {
        promise(10, "Clears the input buffer.", () -> {
            TwistedRow row = Rows.busy();
            String tiles = Rows.tiles(row);
            row.clearInput();
            due("nothing is left", 0, row::clearInput);
            due("no word is left", ARGUMENT, row::run);
            due("the tiles stay", tiles, () -> Rows.tiles(row));
            TwistedRow full = Rows.full();
            full.clearInput();
            due("a full one has room again", 1, () -> full.append(97));
            TwistedRow same = Rows.busy();
            same.clearInput();
            TwistedRow never = Rows.loaded(5, "20134;01243");
            never.allow(0b0111);
            Rows.arrange(never, Rows.tiles(same));
            due("it is as if nothing had been typed", Rows.everything(never), () -> Rows.everything(same));
        });
        promise(10, "Returns the length that it had.", () -> {
            leaves("an empty one", 0, TwistedRow::new, TwistedRow::clearInput);
            due("of one", 1, () -> holding(5, 0, "~").clearInput());
            due("of two", 2, () -> Rows.busy().clearInput());
            due("a full one", 60, () -> Rows.full().clearInput());
        });
    }

    private static void firstError() {
        promise(11, "Finds the first syntax error of the buffer.", () -> {
            leaves("of two, as a word", 1, () -> holding(5, 1, "axay"), row -> row.firstError(true));
            leaves("of two, as turns", 2, () -> holding(5, 1, "12x40y"), row -> row.firstError(false));
            leaves("of a full one", 60, Rows::full, row -> row.firstError(true));
        });
        promise(11, "`word`: true to read it as a word, false to read it as turns", () -> {
            due("true", 1, () -> holding(5, 1, "a0").firstError(true));
            due("false", 0, () -> holding(5, 1, "a0").firstError(false));
            due("true, digits", 0, () -> holding(5, 1, "0a").firstError(true));
            due("false, digits", 1, () -> holding(5, 1, "0a").firstError(false));
        });
        promise(11, "Returns the index of the first character that is a syntax error", () -> {
            wordError(1, "?", 0);
            turnsError(5, 0, "?", 0);
            wordError(1, "aaa?aaa", 3);
            turnsError(5, 0, "12340;432?0", 9);
            due("the last one of 60, as a word", 59, () -> {
                TwistedRow row = Rows.withTurns(5, 1);
                Rows.fill(row, "a", 59);
                row.append('b');
                return row.firstError(true);
            });
            due("the one behind the turns in 60", 35, () -> {
                TwistedRow row = holding(5, 0, firstTurns(6));
                Rows.fill(row, ";", 25);
                return row.firstError(false);
            });
        });
        promise(11, "; the length of the buffer if there is none.", () -> {
            wordError(0, "", 0);
            wordError(6, "", 0);
            turnsError(5, 0, "", 0);
            turnsError(5, 6, "", 0);
            wordError(1, "a", 1);
            turnsError(5, 0, "1", 1);
            turnsError(5, 0, "12340;", 6);
            turnsError(8, 0, "76543210;76543210;76543210;76543210;76543210;76543210", 53);
            due("60 of a word", 60, () -> Rows.full().firstError(true));
        });
    }

    private static void load() {
        promise(12, "Adds the turns in the buffer", () -> {
            TwistedRow row = holding(5, 2, "12340;43210;02134;01243");
            row.exchange(0, 4);
            row.allow(0b0110);
            row.load();
            for (int turn = 2; turn < 6; turn++) {
                int next = turn;
                String sources = List.of("12340", "43210", "02134", "01243").get(turn - 2);
                due("turn " + turn, sources, () -> Rows.sources(row, 2 * next));
            }
            due("the first one's inverse", "40123", () -> Rows.sources(row, 5));
            due("the turns before stay", "10234", () -> Rows.sources(row, 2));
            due("their moves are allowed, the others stay", 0b111111110110, () -> row.count(2));
            due("the tiles stay", "41230", () -> Rows.tiles(row));
            TwistedRow neighbours = holding(5, 2, "02134;01234;01324;01243");
            due("the group without them", 2, () -> neighbours.group(0));
            neighbours.load();
            due("the group with all of them", 120, () -> neighbours.group(0));
        });
        promise(12, ", and clears the buffer.", () -> {
            TwistedRow row = holding(8, 0, "76543210;76543210;76543210;76543210;76543210;76543210");
            row.load();
            due("nothing is left", 0, row::clearInput);
            due("the next one is the first", 1, () -> row.append(97));
        });
        promise(12, "Returns the number of turns then.", () -> {
            for (int before = 0; before < 6; before++) {
                int turns = before;
                for (int more = 1; more <= 6 - before; more++) {
                    String text = firstTurns(more);
                    due(more + " behind " + before, before + more, () -> holding(5, turns, text).load());
                }
            }
        });
        promise(12, "Throws `IllegalArgumentException` if the buffer is not a text of turns", () -> {
            for (int before = 0; before <= 5; before++) {
                int turns = before;
                for (String text : new String[] {"", "1234", "12340;", "12340;4321", ";", "aA", "12344", "123405", "12345",
                    "12340;4321?", "12340;43211", " 12340", "12340 ", firstTurns(7 - before), firstTurns(6 - before) + ";"}) {
                    refused("\"" + text + "\" behind " + before, ARGUMENT, () -> holding(5, turns, text), TwistedRow::load);
                }
            }
            for (String text : new String[] {"", "0", "12340", ";"}) {
                refused("\"" + text + "\" behind six", ARGUMENT, () -> holding(5, 6, text), TwistedRow::load);
            }
            refused("a full buffer", ARGUMENT, Rows::full, TwistedRow::load);
            refused("a turn of another number of places", ARGUMENT, () -> {
                TwistedRow row = holding(5, 0, "12340");
                row.begin(6);
                return row;
            }, TwistedRow::load);
        });
    }

    private static void run() {
        promise(13, "Carries out the word in the buffer", () -> {
            TwistedRow row = Rows.loaded(4, "3012;1023");
            Rows.type(row, "abA");
            row.run();
            due("from left to right", "3120", () -> Rows.tiles(row));
            Rows.type(row, "bB");
            row.run();
            due("there and back", "3120", () -> Rows.tiles(row));
            TwistedRow full = Rows.loaded(4, "3012");
            Rows.fill(full, "a", 59);
            full.append('A');
            full.run();
            due("all 60 of them, the last one backwards", "2301", () -> Rows.tiles(full));
        });
        promise(13, ", and clears the buffer.", () -> {
            TwistedRow row = holding(4, 2, "abAB");
            row.run();
            due("nothing is left", 0, row::clearInput);
            TwistedRow full = Rows.full();
            full.run();
            due("nothing is left of 60", 0, full::clearInput);
        });
        promise(13, "Returns the number of its moves.", () -> {
            due("one", 1, () -> holding(4, 1, "A").run());
            due("four", 4, () -> holding(4, 1, "aAaA").run());
            due("sixty", 60, () -> Rows.full().run());
        });
        promise(13, "Throws `IllegalArgumentException` if the buffer is not a word", () -> {
            for (Maker maker : notWords()) {
                refused("run", ARGUMENT, maker, TwistedRow::run);
            }
            refused("no word, and a forbidden move", ARGUMENT, () -> {
                TwistedRow row = Rows.busy();
                Rows.type(row, "c");
                return row;
            }, TwistedRow::run);
        });
        promise(13, "Throws `IllegalStateException` if one of its moves is forbidden", () -> {
            for (String text : new String[] {"B", "Ba", "aB", "aBA", "bAaBab", "aAbbaAB"}) {
                refused("word " + text, STATE, () -> {
                    TwistedRow row = Rows.busy();
                    row.clearInput();
                    Rows.type(row, text);
                    return row;
                }, TwistedRow::run);
            }
            refused("the last one of 60", STATE, () -> {
                TwistedRow row = Rows.busy();
                row.clearInput();
                Rows.fill(row, "a", 59);
                row.append('B');
                return row;
            }, TwistedRow::run);
            TwistedRow row = Rows.busy();
            row.clearInput();
            Rows.type(row, "abA");
            due("all the others are carried out", 3, row::run);
        });
    }

    /** Buffers that are no words, of rows whose moves are all allowed and of others. */
    private static List<Maker> notWords() {
        return List.of(TwistedRow::new, () -> holding(5, 2, ""), () -> holding(5, 2, "abc"), () -> holding(5, 2, "C"),
            () -> holding(5, 0, "a"), () -> holding(5, 2, " a"), () -> holding(5, 2, "a "), () -> holding(5, 2, "a;b"),
            () -> holding(5, 2, "12340"), () -> holding(5, 6, "g"), () -> holding(5, 6, "fFG"), () -> {
                TwistedRow row = holding(5, 2, "ab");
                row.dropTurn();
                return row;
            }, () -> {
                TwistedRow row = Rows.withTurns(5, 1);
                Rows.fill(row, "a", 59);
                row.append('b');
                return row;
            });
    }

    private static void order(String what, int due, int places, String turns, String word) {
        leaves(what, due, () -> {
            TwistedRow row = Rows.loaded(places, turns);
            row.exchange(0, 2);
            Rows.type(row, word);
            return row;
        }, TwistedRow::order);
    }

    private static void order() {
        promise(14, "Returns the order of the word in the buffer.", () -> {
            order("of a move", 5, 5, "12340", "a");
            order("of its inverse", 5, 5, "12340", "A");
            order("of a move between others", 2, 4, "3012;0213", "aabAA");
            due("the buffer stays", 2, () -> {
                TwistedRow row = holding(5, 1, "aA");
                row.order();
                return row.clearInput();
            });
        });
        promise(14, "Returns how often it must be carried out, at least once", () -> {
            order("a move that lets all tiles where they are", 1, 5, "01234", "a");
            order("there and back", 1, 5, "12340", "aA");
            order("all the way round", 1, 5, "12340", "aaaaa");
            due("sixty moves that change nothing", 1, () -> Rows.full().order());
        });
        promise(14, ", until all tiles are where they were", () -> {
            order("two", 2, 5, "10234", "a");
            order("three and two", 6, 5, "12043", "a");
            order("five and three, the most that 8 places have", 15, 8, "12340675", "a");
            order("seven", 7, 7, "6012345", "a");
            order("of 8 places, a part of the way", 2, 8, "70123456", "aaaa");
            order("of 8 places, three on", 8, 8, "70123456", "aaa");
            order("of the other tiles too", 4, 8, "10345267", "a");
        });
        promise(14, ", whether its moves are allowed or not.", () -> {
            for (int allowed = 0; allowed < 4; allowed++) {
                int moves = allowed;
                leaves("with " + allowed, 5, () -> {
                    TwistedRow row = Rows.loaded(5, "12340");
                    row.allow(moves);
                    Rows.type(row, "aaA");
                    return row;
                }, TwistedRow::order);
            }
            leaves("a forbidden one among others", 6, Rows::busy, TwistedRow::order);
        });
        promise(14, "Throws `IllegalArgumentException` if the buffer is not a word", () -> {
            for (Maker maker : notWords()) {
                refused("order", ARGUMENT, maker, TwistedRow::order);
            }
        });
    }
}
