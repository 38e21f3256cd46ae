import java.util.List;

/** What "Terms" says of exceptions, for all calls that throw one. */
final class ExceptionSentences extends Sentences {
    static void all() {
        nothingIsChanged();
        firstOfSeveral();
    }

    /** Calls that are wrong in any state. */
    private static final List<Call> ALWAYS_WRONG = List.of(row -> row.begin(2), row -> row.begin(9),
        row -> row.addTurn(0, -1, 2), row -> row.addTurn(0, 0, 8), row -> row.addTurn(3, 0, 1), row -> row.addTurn(-1, 0, 1),
        row -> row.addTurn(0, 1, 1), row -> row.allow(-1), row -> row.allow(4096), row -> row.exchange(-1, 0),
        row -> row.exchange(0, 8), row -> row.make(-1), row -> row.make(12), row -> row.append(31), row -> row.append(127),
        row -> row.group(-1), row -> row.group(4), row -> row.basicOrbit(-1), row -> row.basicOrbit(8), row -> row.phase(-1, 0),
        row -> row.phase(4096, 0), row -> row.phase(0, 3), row -> row.phase(0, -1), row -> row.ifForbidden(-1, 0),
        row -> row.ifForbidden(12, 0), row -> row.ifForbidden(0, 2), row -> row.tile(-1), row -> row.tile(8),
        row -> row.source(-1, 0), row -> row.source(0, -1), row -> row.source(12, 0), row -> row.commute(-1, 0),
        row -> row.commute(0, 12), row -> row.count(-1), row -> row.count(5));

    private static boolean throwsOn(TwistedRow row, Call call) {
        try {
            call.on(row);
            return false;
        } catch (IllegalArgumentException | IllegalStateException | IndexOutOfBoundsException due) {
            return true;
        }
    }

    private static void throwing(String what, Maker maker, Call call) {
        TwistedRow row = maker.make();
        due(what + " throws", true, () -> throwsOn(row, call));
        due(what + " changes nothing", Rows.everything(maker.make()), () -> Rows.everything(row));
    }

    private static void nothingIsChanged() {
        term("A call that throws an exception changes nothing.", () -> {
            List<Maker> makers = List.of(TwistedRow::new, Rows::busy, Rows::full, () -> Rows.crowded(3), () -> Rows.crowded(8));
            for (Maker maker : makers) {
                for (int i = 0; i < ALWAYS_WRONG.size(); i++) {
                    throwing("call " + i, maker, ALWAYS_WRONG.get(i));
                }
            }
            throwing("dropTurn of a new row", TwistedRow::new, TwistedRow::dropTurn);
            throwing("append to a full buffer", Rows::full, row -> row.append(97));
            throwing("a forbidden move", Rows::busy, row -> row.make(3));
            throwing("a word with a forbidden move", Rows::busy, TwistedRow::run);
            throwing("a word as turns", Rows::busy, TwistedRow::load);
            throwing("a seventh turn", () -> Rows.crowded(8), row -> row.addTurn(0, 0, 1));
            for (String text : new String[] {"01243;", "01243;0123", "01243;01233", "01243;01234;x"}) {
                Maker maker = () -> {
                    TwistedRow row = Rows.busy();
                    row.clearInput();
                    Rows.type(row, text);
                    return row;
                };
                throwing("load of " + text, maker, TwistedRow::load);
                throwing("run of " + text, maker, TwistedRow::run);
                throwing("order of " + text, maker, TwistedRow::order);
            }
        });
    }

    private static void firstOfSeveral() {
        term("If several exceptions apply, the one that is named first in the throws clause is thrown.", () -> {
            Maker six = () -> Rows.crowded(5);
            refused("addTurn: place and kind", INDEX, Rows::busy, row -> row.addTurn(3, 0, 5));
            refused("addTurn: place and order", INDEX, Rows::busy, row -> row.addTurn(0, 5, 5));
            refused("addTurn: place and number", INDEX, six, row -> row.addTurn(0, 0, 5));
            refused("addTurn: place, kind and number", INDEX, six, row -> row.addTurn(-1, -1, -1));
            refused("addTurn: kind and number", ARGUMENT, six, row -> row.addTurn(3, 0, 1));
            refused("addTurn: order and number", ARGUMENT, six, row -> row.addTurn(0, 1, 0));
            refused("addTurn: number alone", STATE, six, row -> row.addTurn(0, 0, 1));
            refused("append: code and length", ARGUMENT, Rows::full, row -> row.append(127));
            refused("append: length alone", STATE, Rows::full, row -> row.append(126));
            Maker noWord = () -> {
                TwistedRow row = Rows.busy();
                row.append(';');
                return row;
            };
            refused("run: no word, and a forbidden move", ARGUMENT, noWord, TwistedRow::run);
            refused("run: a forbidden move alone", STATE, Rows::busy, TwistedRow::run);
            refused("ifForbidden: move and what", INDEX, Rows::busy, row -> row.ifForbidden(4, 2));
            refused("ifForbidden: what and a forbidden move", ARGUMENT, Rows::busy, row -> row.ifForbidden(3, -1));
            refused("ifForbidden: a forbidden move alone", STATE, Rows::busy, row -> row.ifForbidden(3, 0));
            refused("make: a move that was forbidden, of a dropped turn", INDEX, () -> {
                TwistedRow row = Rows.busy();
                row.dropTurn();
                return row;
            }, row -> row.make(3));
        });
    }
}
