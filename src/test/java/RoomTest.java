import java.lang.management.ManagementFactory;

/** The room that all calls of one run have together: 512 of the dearest calls, ordinary and refused ones. */
public final class RoomTest {
    /** Room for 7.3 million elements, if each is an int: a row whose calls make rows anew needs many times as much. */
    private static final long MOST_BYTES = 4L * 7_300_000L;

    interface Run {
        void call(TwistedRow row, int number);
    }

    private static long allocated() {
        return ((com.sun.management.ThreadMXBean) ManagementFactory.getThreadMXBean()).getCurrentThreadAllocatedBytes();
    }

    private static void room(String what, Run run) {
        TwistedRow row = new TwistedRow();
        long before = allocated();
        row.begin(8);
        row.addTurn(1, 0, 7);
        row.addTurn(2, 0, 1);
        row.exchange(2, 3);
        for (int number = 4; number < 512; number++) {
            run.call(row, number);
        }
        long bytes = allocated() - before;
        Check.due("512 calls, " + what + ", find room", true, () -> bytes < MOST_BYTES);
    }

    public static void main(String[] args) {
        room("begin", (row, number) -> row.begin(3 + number % 6));
        room("begin of 8", (row, number) -> row.begin(8));
        room("turns", (row, number) -> {
            if (number % 2 == 0) {
                row.dropTurn();
            } else {
                row.addTurn(0, 0, 7);
            }
        });
        room("masks", (row, number) -> {
            if (number % 2 == 0) {
                row.allow(number % 16);
            } else {
                row.digest();
            }
        });
        room("phases", (row, number) -> row.phase(number % 16, 2));
        room("forbidden moves", (row, number) -> row.ifForbidden(number % 4, 1));
        room("words", (row, number) -> row.words());
        room("the arrangement", (row, number) -> {
            if (number % 2 == 0) {
                row.exchange(number % 8, number % 5);
            } else {
                row.solve();
            }
        });
        room("input", (row, number) -> {
            if (number % 2 == 0) {
                row.append(97);
            } else {
                row.run();
            }
        });
        room("refused calls", (row, number) -> {
            try {
                row.group(4);
            } catch (IllegalArgumentException due) {
                row.tile(0);
            }
        });
        Check.finish();
    }
}
