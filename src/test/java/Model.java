import java.util.ArrayList;
import java.util.Arrays;
import java.util.HashMap;
import java.util.HashSet;
import java.util.LinkedHashMap;
import java.util.List;
import java.util.Map;
import java.util.Set;
import java.util.TreeMap;
import java.util.TreeSet;

/** The document once more, written with the Java library and without care for speed or room. */
final class Model {
    private static final int[] LEAST = {1, 1, 1, 3, 2, 2, 2, 1};

    private static final class Side {
        int clock;
        int epoch;
        int n = 1;
        int counter;
        /** A flow: its eight fields, and as the ninth the tick of its latest packet. */
        final LinkedHashMap<List<Integer>, int[]> cache = new LinkedHashMap<>();
        final List<int[]> ended = new ArrayList<>();
        final Map<Integer, LinkedHashMap<Integer, Integer>> drafts = new HashMap<>();
        /** In the order in which they were sealed. */
        final LinkedHashMap<Integer, LinkedHashMap<Integer, Integer>> force = new LinkedHashMap<>();
        final Map<Integer, Integer> revisions = new HashMap<>();
        int written;
        int told;
        final Map<Integer, TreeSet<Integer>> heard = new HashMap<>();
        int dropped;
        int spoilt;
        int[] noted;
    }

    private final Side[] sides = {new Side(), new Side()};
    private final List<List<Integer>> reports = new ArrayList<>();
    private final Map<List<Integer>, LinkedHashMap<Integer, Integer>> known = new HashMap<>();
    private final List<List<Integer>> shelf = new ArrayList<>();
    private final List<TreeMap<Integer, Long>> rows = new ArrayList<>();

    private Side side(int exporter) {
        argument(exporter == 0 || exporter == 1);
        return sides[exporter];
    }

    private static void argument(boolean holds) {
        if (!holds) {
            throw new IllegalArgumentException();
        }
    }

    private static void state(boolean holds) {
        if (!holds) {
            throw new IllegalStateException();
        }
    }

    private static void index(boolean holds) {
        if (!holds) {
            throw new IndexOutOfBoundsException();
        }
    }

    private static void supported(boolean holds) {
        if (!holds) {
            throw new UnsupportedOperationException();
        }
    }

    private static boolean in(int v, int low, int high) {
        return low <= v && v <= high;
    }

    private static void end(Side s, List<Integer> key, int reason) {
        int[] flow = s.cache.remove(key);
        flow[6] = s.clock;
        flow[7] = reason;
        s.ended.add(flow);
    }

    boolean packet(int exporter, int source, int target, int service, int bytes, boolean finish) {
        Side s = side(exporter);
        argument(in(source, 0, 255) && in(target, 0, 255) && in(service, 0, 255) && in(bytes, 0, 9999));
        state(s.cache.size() + s.ended.size() < 20);
        boolean sampled = s.counter == 0;
        s.counter = (s.counter + 1) % s.n;
        if (!sampled) {
            return false;
        }
        List<Integer> key = List.of(source, target, service);
        if (!s.cache.containsKey(key)) {
            if (s.cache.size() == 6) {
                List<Integer> oldest = null;
                for (List<Integer> each : s.cache.keySet()) {
                    if (oldest == null || s.cache.get(each)[8] < s.cache.get(oldest)[8]) {
                        oldest = each;
                    }
                }
                end(s, oldest, 4);
            }
            s.cache.put(key, new int[] {source, target, service, 0, 0, s.clock, -1, 0, s.clock});
        }
        int[] flow = s.cache.get(key);
        flow[3] += bytes;
        flow[4]++;
        flow[8] = s.clock;
        if (finish) {
            end(s, key, 3);
        }
        return true;
    }

    int tick(int exporter, int n) {
        Side s = side(exporter);
        argument(in(n, 1, 100));
        int before = s.ended.size();
        for (int i = 0; i < n; i++) {
            s.clock++;
            for (List<Integer> key : new ArrayList<>(s.cache.keySet())) {
                int[] flow = s.cache.get(key);
                if (flow[8] + 15 == s.clock) {
                    end(s, key, 1);
                } else if (flow[5] + 60 == s.clock) {
                    end(s, key, 2);
                }
            }
        }
        return s.ended.size() - before;
    }

    int flush(int exporter) {
        Side s = side(exporter);
        List<List<Integer>> keys = new ArrayList<>(s.cache.keySet());
        for (List<Integer> key : keys) {
            end(s, key, 5);
        }
        return keys.size();
    }

    void sampler(int exporter, int n) {
        Side s = side(exporter);
        argument(in(n, 1, 9));
        s.n = n;
        s.counter = 0;
    }

    int ended(int exporter, int i, int f) {
        Side s = side(exporter);
        argument(in(f, 0, 7));
        index(in(i, 0, s.ended.size() - 1));
        return s.ended.get(i)[f];
    }

    int field(int exporter, int template, int f, int length) {
        Side s = side(exporter);
        argument(in(template, 0, 2) && in(f, 0, 7) && in(length, 0, 4));
        argument(length == 0 || length >= LEAST[f]);
        LinkedHashMap<Integer, Integer> draft = s.drafts.computeIfAbsent(template, k -> new LinkedHashMap<>());
        state(!draft.containsKey(f));
        draft.put(f, length);
        return draft.size();
    }

    int seal(int exporter, int template) {
        Side s = side(exporter);
        argument(in(template, 0, 2));
        state(s.drafts.containsKey(template) && !s.force.containsKey(template));
        s.force.put(template, s.drafts.remove(template));
        return s.revisions.merge(template, 1, Integer::sum);
    }

    void withdraw(int exporter, int template) {
        Side s = side(exporter);
        argument(in(template, 0, 2));
        state(s.force.remove(template) != null);
    }

    int restart(int exporter) {
        Side s = side(exporter);
        state(s.epoch < 5);
        s.epoch++;
        s.cache.clear();
        s.ended.clear();
        s.drafts.clear();
        s.force.clear();
        s.revisions.clear();
        s.written = 0;
        s.told = 0;
        s.n = 1;
        s.counter = 0;
        return s.epoch;
    }

    private int keep(List<Integer> bytes) {
        reports.add(bytes);
        return reports.size() - 1;
    }

    int announce(int exporter, int template) {
        Side s = side(exporter);
        argument(in(template, 0, 2));
        state(s.force.containsKey(template) && reports.size() < 30);
        List<Integer> bytes = new ArrayList<>(List.of(exporter, s.epoch, 0, template, s.revisions.get(template)));
        bytes.add(s.force.get(template).size());
        s.force.get(template).forEach((f, length) -> bytes.addAll(List.of(f, length)));
        return keep(bytes);
    }

    private static List<Integer> record(Map<Integer, Integer> layout, int[] flow) {
        List<Integer> bytes = new ArrayList<>();
        layout.forEach((f, length) -> {
            String hex = Integer.toHexString(flow[f]);
            int digits = length == 0 ? (hex.length() + 1) / 2 * 2 : 2 * length;
            String padded = "0".repeat(digits - hex.length()) + hex;
            if (length == 0) {
                bytes.add(digits / 2);
            }
            for (int i = 0; i < digits; i += 2) {
                bytes.add(Integer.parseInt(padded.substring(i, i + 2), 16));
            }
        });
        return bytes;
    }

    int report(int exporter) {
        Side s = side(exporter);
        state(!s.ended.isEmpty() && !s.force.isEmpty() && s.written < 100 && reports.size() < 30);
        int template = new ArrayList<>(s.force.keySet()).get(s.force.size() - 1);
        List<Integer> records = new ArrayList<>();
        int first = s.written;
        while (!s.ended.isEmpty() && s.written < 100) {
            List<Integer> next = record(s.force.get(template), s.ended.get(0));
            if (7 + records.size() + next.size() > 64) {
                break;
            }
            records.addAll(next);
            s.ended.remove(0);
            s.written++;
        }
        List<Integer> bytes = new ArrayList<>(List.of(exporter, s.epoch, 1, template, s.revisions.get(template)));
        bytes.addAll(List.of(s.written - first, first));
        bytes.addAll(records);
        return keep(bytes);
    }

    int tell(int exporter) {
        Side s = side(exporter);
        state(reports.size() < 30);
        return keep(new ArrayList<>(List.of(exporter, s.epoch, 2, s.told++, s.n)));
    }

    int size(int report) {
        return in(report, 0, reports.size() - 1) ? reports.get(report).size() : -1;
    }

    int byteOf(int report, int i) {
        index(in(i, 0, size(report) - 1));
        return reports.get(report).get(i);
    }

    void poke(int report, int i, int v) {
        index(in(i, 0, size(report) - 1));
        argument(in(v, 0, 255));
        reports.get(report).set(i, v);
    }

    private static List<Integer> name(List<Integer> report) {
        return List.of(report.get(0), report.get(1), report.get(3), report.get(4));
    }

    /** The rows of records, or null if reading them is bad. */
    private static List<TreeMap<Integer, Long>> read(List<Integer> report, Map<Integer, Integer> layout) {
        List<Integer> rest = new ArrayList<>(report.subList(7, report.size()));
        List<TreeMap<Integer, Long>> made = new ArrayList<>();
        for (int i = 0; i < report.get(5); i++) {
            TreeMap<Integer, Long> row = new TreeMap<>();
            row.put(8, (long) report.get(0));
            for (Map.Entry<Integer, Integer> each : layout.entrySet()) {
                int length = each.getValue();
                if (length == 0) {
                    if (rest.isEmpty() || !in(rest.get(0), 1, 4)) {
                        return null;
                    }
                    length = rest.remove(0);
                }
                if (rest.size() < length) {
                    return null;
                }
                long value = 0;
                for (int k = 0; k < length; k++) {
                    value = value * 256 + rest.remove(0);
                }
                row.put(each.getKey(), value);
            }
            made.add(row);
        }
        return rest.isEmpty() ? made : null;
    }

    private static void judge(List<Integer> b) {
        argument(b.get(0) <= 1 && b.get(1) <= 5 && b.get(2) <= 2);
        if (b.get(2) == 2) {
            argument(b.size() == 5 && in(b.get(4), 1, 9));
            return;
        }
        argument(b.get(3) <= 2 && b.get(4) != 0);
        if (b.get(2) == 1) {
            argument(b.size() > 6 && b.get(5) != 0 && b.get(6) + b.get(5) - 1 <= 99);
            return;
        }
        argument(b.size() > 5 && in(b.get(5), 1, 8) && b.size() == 6 + 2 * b.get(5));
        Set<Integer> seen = new HashSet<>();
        for (int i = 6; i < b.size(); i += 2) {
            argument(b.get(i) <= 7 && seen.add(b.get(i)) && b.get(i + 1) <= 4);
        }
    }

    int hear(int report) {
        index(in(report, 0, reports.size() - 1));
        List<Integer> b = new ArrayList<>(reports.get(report));
        judge(b);
        Side s = sides[b.get(0)];
        int before = rows.size();
        if (b.get(2) == 0) {
            hearTemplate(b);
        } else if (b.get(2) == 1) {
            hearRecords(s, b);
        } else if (s.noted == null || Arrays.compare(s.noted, 0, 2, new int[] {b.get(1), b.get(3)}, 0, 2) < 0) {
            s.noted = new int[] {b.get(1), b.get(3), b.get(4)};
        }
        return rows.size() - before;
    }

    private void hearTemplate(List<Integer> b) {
        if (known.containsKey(name(b))) {
            return;
        }
        supported(known.size() < 20);
        List<List<Integer>> waiting = new ArrayList<>(shelf);
        waiting.removeIf(each -> !name(each).equals(name(b)));
        supported(rows.size() + waiting.stream().mapToInt(each -> each.get(5)).sum() <= 80);
        LinkedHashMap<Integer, Integer> layout = new LinkedHashMap<>();
        for (int i = 6; i < b.size(); i += 2) {
            layout.put(b.get(i), b.get(i + 1));
        }
        known.put(name(b), layout);
        shelf.removeIf(each -> name(each).equals(name(b)));
        for (List<Integer> each : waiting) {
            List<TreeMap<Integer, Long>> made = read(each, layout);
            if (made == null) {
                sides[each.get(0)].spoilt++;
            } else {
                rows.addAll(made);
            }
        }
    }

    private void hearRecords(Side s, List<Integer> b) {
        TreeSet<Integer> heard = s.heard.computeIfAbsent(b.get(1), k -> new TreeSet<>());
        TreeSet<Integer> places = new TreeSet<>();
        for (int i = 0; i < b.get(5); i++) {
            places.add(b.get(6) + i);
        }
        if (places.stream().anyMatch(heard::contains)) {
            return;
        }
        if (known.containsKey(name(b))) {
            List<TreeMap<Integer, Long>> made = read(b, known.get(name(b)));
            argument(made != null);
            supported(rows.size() + made.size() <= 80);
            rows.addAll(made);
        } else {
            if (shelf.size() == 5) {
                sides[shelf.remove(0).get(0)].dropped++;
            }
            shelf.add(b);
        }
        heard.addAll(places);
    }

    int rows() {
        return rows.size();
    }

    long row(int row, int f) {
        index(in(row, 0, rows.size() - 1));
        argument(in(f, 0, 8));
        return rows.get(row).getOrDefault(f, -1L);
    }

    long total(int exporter, int f, long value, int what) {
        side(exporter);
        argument(in(f, 0, 7) && in(what, 0, 7));
        return rows.stream().filter(r -> r.get(8) == exporter && r.containsKey(what) && r.containsKey(f))
                .filter(r -> r.get(f) == value).mapToLong(r -> r.get(what)).sum();
    }

    int other(int row) {
        index(in(row, 0, rows.size() - 1));
        List<Integer> open = new ArrayList<>();
        for (int i = 0; i < rows.size(); i++) {
            if (rows.get(i).keySet().containsAll(List.of(0, 1, 2, 5))) {
                open.add(i);
            }
        }
        open.sort((a, b) -> Long.compare(rows.get(a).get(5), rows.get(b).get(5)));
        while (!open.isEmpty()) {
            int one = open.remove(0);
            TreeMap<Integer, Long> r = rows.get(one);
            int mate = open.stream().filter(i -> reverse(r, rows.get(i))).min((a, b) -> {
                int far = Long.compare(Math.abs(rows.get(a).get(5) - r.get(5)), Math.abs(rows.get(b).get(5) - r.get(5)));
                return far != 0 ? far : Integer.compare(a, b);
            }).orElse(-1);
            open.remove((Integer) mate);
            if (one == row) {
                return mate;
            }
            if (mate == row) {
                return one;
            }
        }
        return -1;
    }

    private static boolean reverse(Map<Integer, Long> a, Map<Integer, Long> b) {
        return List.of(a.get(8), a.get(0), a.get(1), a.get(2)).equals(List.of(b.get(8), b.get(1), b.get(0), b.get(2)));
    }

    int count(int exporter, int which) {
        Side s = side(exporter);
        argument(in(which, 0, 9));
        int lost = 0;
        for (TreeSet<Integer> each : s.heard.values()) {
            lost += each.isEmpty() ? 0 : each.last() - each.first() + 1 - each.size();
        }
        int waiting = (int) shelf.stream().filter(each -> each.get(0) == exporter).count();
        return new int[] {s.clock, s.epoch, s.cache.size(), s.ended.size(), s.written, lost, waiting, s.dropped,
            s.spoilt, s.noted == null ? 0 : s.noted[2]}[which];
    }
}
