import java.util.Arrays;
import java.util.HashMap;
import java.util.Map;

/**
 * A new object that hears reports of any bytes. The reports are real ones of exporter 1 with the same size, poked; so
 * sizes are 5, 8 to 27, and beyond that those that records of 3 or 4 bytes make. Only what differs is poked, and each
 * size is made once, as an object has but 30 reports and 512 calls.
 */
final class Post {
    final FlowShelf x = new FlowShelf();
    private final Map<Integer, Integer> numbers = new HashMap<>();
    private final Map<Integer, int[]> contents = new HashMap<>();

    int with(int... bytes) {
        int number = numbers.computeIfAbsent(bytes.length, this::make);
        int[] was = contents.get(bytes.length);
        for (int i = 0; i < bytes.length; i++) {
            if (was[i] != bytes[i]) {
                x.poke(number, i, bytes[i]);
                was[i] = bytes[i];
            }
        }
        return number;
    }

    private int make(int size) {
        int[] unknown = new int[size];
        Arrays.fill(unknown, -1);
        contents.put(size, unknown);
        int made = size == 5 ? x.tell(1) : records(size - 7);
        Checks.due("a report of " + size + " bytes", size, x.size(made));
        return made;
    }

    private int records(int bytes) {
        int length = bytes <= 20 ? 1 : bytes % 3 == 0 ? 3 : 4;
        Checks.template(x, 1, 0, 0, length);
        Checks.finished(x, 1, bytes / length);
        int made = x.report(1);
        x.withdraw(1, 0);
        return made;
    }

    /** What the collector has: LOST, shelf, dropped, spoilt and noted n of both exporters, and the rows. */
    String state() {
        StringBuilder text = new StringBuilder();
        for (int e = 0; e < 2; e++) {
            for (int which = 5; which < 10; which++) {
                text.append(x.count(e, which)).append(' ');
            }
        }
        return text.append(x.rows()).toString();
    }

    void hears(String what, int rows, int... bytes) {
        int number = with(bytes);
        Checks.answers(what, rows, () -> x.hear(number));
    }

    void nothingOf(String what, int... bytes) {
        int number = with(bytes);
        String before = state();
        Checks.answers(what, 0, () -> x.hear(number));
        Checks.due(what + ": nothing happens", before, state());
    }

    void bad(String what, int... bytes) {
        int number = with(bytes);
        String before = state();
        Checks.argument(what, () -> x.hear(number));
        Checks.due(what + ": nothing happens", before, state());
    }

    void tooMuch(String what, int... bytes) {
        int number = with(bytes);
        String before = state();
        Checks.unsupported(what, () -> x.hear(number));
        Checks.due(what + ": nothing happens", before, state());
    }
}
