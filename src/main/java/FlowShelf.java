import java.util.ArrayList;
import java.util.Arrays;

/**
 * Two exporters that watch packets as flows and report them by templates, and one collector that hears such reports
 * in any order. The numbered promises that it keeps are those of the project's document.
 */
public final class FlowShelf {
    private static final int LAST_EPOCH = 5;
    private static final int LARGEST_BYTE = 255;
    private static final int LARGEST_PACKET = 9999;
    private static final int MOST_TICKS = 100;
    private static final int LARGEST_SAMPLER = 9;

    private static final int CACHE_ROOM = 6;
    private static final int FLOW_ROOM = 20;
    private static final int IDLE_TICKS = 15;
    private static final int OLD_TICKS = 60;

    private static final int NOT_ENDED = 0;
    private static final int IDLE = 1;
    private static final int OLD = 2;
    private static final int FINISHED = 3;
    private static final int PUT_OUT = 4;
    private static final int FLUSHED = 5;

    private static final int FIELDS = 8;
    private static final int[] LEAST_LENGTH = {1, 1, 1, 3, 2, 2, 2, 1};
    private static final int LONGEST_FIELD = 4;
    private static final int VARIABLE = 0;
    private static final int TEMPLATES = 3;

    private static final int SOURCE = 0;
    private static final int TARGET = 1;
    private static final int SERVICE = 2;
    private static final int BYTES = 3;
    private static final int PACKETS = 4;
    private static final int BEGAN = 5;
    private static final int ENDED = 6;
    private static final int ROW_EXPORTER = 8;

    private static final int REPORT_ROOM = 30;
    private static final int REPORT_BYTES = 64;
    private static final int PLACES = 100;
    private static final int TEMPLATE_KIND = 0;
    private static final int RECORDS_KIND = 1;
    private static final int SAMPLER_KIND = 2;
    private static final int TEMPLATE_HEAD = 6;
    private static final int RECORDS_HEAD = 7;
    private static final int SAMPLER_BYTES = 5;

    private static final int KNOWN_ROOM = 20;
    private static final int SHELF_ROOM = 5;
    private static final int ROW_ROOM = 80;
    private static final int NO_VALUE = -1;
    private static final int NONE = -1;

    private final Exporter first;
    private final Exporter second;
    private final ArrayList<Report> reports;
    private final Collector collector;

    public FlowShelf() {
        first = new Exporter(0);
        second = new Exporter(1);
        reports = new ArrayList<>();
        collector = new Collector();
    }

    public boolean packet(int exporter, int source, int target, int service, int bytes, boolean finish)
            throws IllegalArgumentException, IllegalStateException {
        Exporter watcher = exporterOf(exporter);
        if (!isByte(source) || !isByte(target) || !isByte(service)) {
            throw new IllegalArgumentException("a part of the key is not 0 .. 255");
        }
        if (bytes < 0 || bytes > LARGEST_PACKET) {
            throw new IllegalArgumentException("bytes is not 0 .. 9999");
        }
        if (watcher.flowsHeld() >= FLOW_ROOM) {
            throw new IllegalStateException("20 flows are in the cache or ended");
        }
        if (!watcher.samplesNext()) {
            return false;
        }
        watcher.watch(source, target, service, bytes, finish);
        return true;
    }

    public int tick(int exporter, int n) throws IllegalArgumentException {
        Exporter watcher = exporterOf(exporter);
        if (n < 1 || n > MOST_TICKS) {
            throw new IllegalArgumentException("n is not 1 .. 100");
        }
        int gone = 0;
        for (int i = 0; i < n; i++) {
            gone += watcher.passTick();
        }
        return gone;
    }

    public int flush(int exporter) throws IllegalArgumentException {
        return exporterOf(exporter).flushCache();
    }

    public void sampler(int exporter, int n) throws IllegalArgumentException {
        Exporter watcher = exporterOf(exporter);
        if (n < 1 || n > LARGEST_SAMPLER) {
            throw new IllegalArgumentException("n is not 1 .. 9");
        }
        watcher.sampleEvery(n);
    }

    public int ended(int exporter, int i, int f) throws IllegalArgumentException, IndexOutOfBoundsException {
        Exporter watcher = exporterOf(exporter);
        requireField(f);
        if (i < 0 || i >= watcher.endedFlows.size()) {
            throw new IndexOutOfBoundsException("no such ended flow");
        }
        return watcher.endedFlows.get(i).valueOf(f);
    }

    public int field(int exporter, int template, int f, int length)
            throws IllegalArgumentException, IllegalStateException {
        Slot slot = slotOf(exporter, template);
        requireField(f);
        if (length < 0 || length > LONGEST_FIELD) {
            throw new IllegalArgumentException("length is not 0 .. 4");
        }
        if (length != VARIABLE && length < LEAST_LENGTH[f]) {
            throw new IllegalArgumentException("length is less than the field's least");
        }
        if (slot.draft.has(f)) {
            throw new IllegalStateException("the draft has that field");
        }
        slot.draft.append(f, length);
        return slot.draft.used;
    }

    public int seal(int exporter, int template) throws IllegalArgumentException, IllegalStateException {
        Slot slot = slotOf(exporter, template);
        if (slot.draft.used == 0 || slot.inForce) {
            throw new IllegalStateException("the draft is empty, or a template is in force");
        }
        slot.putInForce(exporterOf(exporter).nextSeal());
        return slot.revision;
    }

    public void withdraw(int exporter, int template) throws IllegalArgumentException, IllegalStateException {
        Slot slot = slotOf(exporter, template);
        if (!slot.inForce) {
            throw new IllegalStateException("no template is in force");
        }
        slot.inForce = false;
    }

    public int restart(int exporter) throws IllegalArgumentException, IllegalStateException {
        Exporter watcher = exporterOf(exporter);
        if (watcher.epoch >= LAST_EPOCH) {
            throw new IllegalStateException("the epoch is 5");
        }
        watcher.beginNextEpoch();
        return watcher.epoch;
    }

    public int announce(int exporter, int template) throws IllegalArgumentException, IllegalStateException {
        Slot slot = slotOf(exporter, template);
        if (!slot.inForce || hasNoRoomForReport()) {
            throw new IllegalStateException("no template is in force, or there are 30 reports");
        }
        return keep(exporterOf(exporter).writeTemplate(slot));
    }

    public int report(int exporter) throws IllegalArgumentException, IllegalStateException {
        Exporter watcher = exporterOf(exporter);
        int latest = watcher.numberSealedLast();
        if (latest == NONE || hasNoRoomForReport()) {
            throw new IllegalStateException("no template is in force, or there are 30 reports");
        }
        if (watcher.endedFlows.isEmpty() || watcher.written >= PLACES) {
            throw new IllegalStateException("no flow is ended, or no place is left");
        }
        return keep(watcher.writeRecords(watcher.slots[latest]));
    }

    public int tell(int exporter) throws IllegalArgumentException, IllegalStateException {
        Exporter watcher = exporterOf(exporter);
        if (hasNoRoomForReport()) {
            throw new IllegalStateException("there are 30 reports");
        }
        return keep(watcher.writeSampler());
    }

    public int size(int report) {
        return isReport(report) ? reports.get(report).used : NONE;
    }

    public int byteOf(int report, int i) throws IndexOutOfBoundsException {
        return reportWithByte(report, i).bytes[i];
    }

    public void poke(int report, int i, int v) throws IndexOutOfBoundsException, IllegalArgumentException {
        Report poked = reportWithByte(report, i);
        if (!isByte(v)) {
            throw new IllegalArgumentException("v is not 0 .. 255");
        }
        poked.bytes[i] = v;
    }

    public int hear(int report)
            throws IndexOutOfBoundsException, IllegalArgumentException, UnsupportedOperationException {
        Report heard = reportOf(report);
        if (heard.isBad()) {
            throw new IllegalArgumentException("the report is bad");
        }
        switch (heard.kind()) {
            case TEMPLATE_KIND:
                return collector.hearTemplate(heard);
            case RECORDS_KIND:
                return collector.hearRecords(heard);
            default:
                collector.ledgerOf(heard.exporter()).noteSampler(heard);
                return 0;
        }
    }

    public int rows() {
        return collector.table.list.size();
    }

    public long row(int row, int f) throws IndexOutOfBoundsException, IllegalArgumentException {
        requireRow(row);
        if (f < 0 || f > ROW_EXPORTER) {
            throw new IllegalArgumentException("f is not 0 .. 8");
        }
        Row asked = collector.table.list.get(row);
        return f == ROW_EXPORTER ? asked.exporter : asked.values[f];
    }

    public long total(int exporter, int f, long value, int what) throws IllegalArgumentException {
        if (!isExporter(exporter)) {
            throw new IllegalArgumentException("no such exporter");
        }
        requireField(f);
        requireField(what);
        return collector.table.sumOf(exporter, f, value, what);
    }

    public int other(int row) throws IndexOutOfBoundsException {
        requireRow(row);
        return collector.table.partnerOf(row);
    }

    public int count(int exporter, int which) throws IllegalArgumentException {
        Exporter watcher = exporterOf(exporter);
        Ledger ledger = collector.ledgerOf(exporter);
        switch (which) {
            case 0:
                return watcher.clock;
            case 1:
                return watcher.epoch;
            case 2:
                return watcher.cache.size();
            case 3:
                return watcher.endedFlows.size();
            case 4:
                return watcher.written;
            case 5:
                return ledger.lostRecords();
            case 6:
                return collector.waitingOf(exporter);
            case 7:
                return ledger.dropped;
            case 8:
                return ledger.spoilt;
            case 9:
                return ledger.notedSampler;
            default:
                throw new IllegalArgumentException("no such number");
        }
    }

    private static boolean isExporter(int exporter) {
        return exporter == 0 || exporter == 1;
    }

    private static boolean isByte(int v) {
        return v >= 0 && v <= LARGEST_BYTE;
    }

    private static void requireField(int f) {
        if (f < 0 || f >= FIELDS) {
            throw new IllegalArgumentException("no such field");
        }
    }

    private void requireRow(int row) {
        if (row < 0 || row >= collector.table.list.size()) {
            throw new IndexOutOfBoundsException("no such row");
        }
    }

    private Exporter exporterOf(int exporter) {
        if (!isExporter(exporter)) {
            throw new IllegalArgumentException("no such exporter");
        }
        return exporter == 0 ? first : second;
    }

    private Slot slotOf(int exporter, int template) {
        Exporter watcher = exporterOf(exporter);
        if (template < 0 || template >= TEMPLATES) {
            throw new IllegalArgumentException("no such template number");
        }
        return watcher.slots[template];
    }

    private boolean isReport(int report) {
        return report >= 0 && report < reports.size();
    }

    private Report reportOf(int report) {
        if (!isReport(report)) {
            throw new IndexOutOfBoundsException("no such report");
        }
        return reports.get(report);
    }

    private Report reportWithByte(int report, int i) {
        Report asked = reportOf(report);
        if (i < 0 || i >= asked.used) {
            throw new IndexOutOfBoundsException("no such byte");
        }
        return asked;
    }

    private boolean hasNoRoomForReport() {
        return reports.size() >= REPORT_ROOM;
    }

    private int keep(Report made) {
        reports.add(made);
        return reports.size() - 1;
    }

    /** What an exporter saw under one key, from its first packet until it ended. */
    private static final class Flow {
        final int source;
        final int target;
        final int service;
        final int began;
        int bytes;
        int packets;
        int latest;
        int endedAt;
        int reason;

        Flow(int source, int target, int service, int clock) {
            this.source = source;
            this.target = target;
            this.service = service;
            began = clock;
        }

        boolean hasKey(int itsSource, int itsTarget, int itsService) {
            return source == itsSource && target == itsTarget && service == itsService;
        }

        void addPacket(int itsBytes, int clock) {
            bytes += itsBytes;
            packets++;
            latest = clock;
        }

        int reasonToEnd(int clock) {
            if (clock - latest >= IDLE_TICKS) {
                return IDLE;
            }
            return clock - began >= OLD_TICKS ? OLD : NOT_ENDED;
        }

        int valueOf(int f) {
            switch (f) {
                case SOURCE:
                    return source;
                case TARGET:
                    return target;
                case SERVICE:
                    return service;
                case BYTES:
                    return bytes;
                case PACKETS:
                    return packets;
                case BEGAN:
                    return began;
                case ENDED:
                    return endedAt;
                default:
                    return reason;
            }
        }
    }

    /** A row of different fields, each with its length. */
    private static final class Layout {
        final int[] fields = new int[FIELDS];
        final int[] lengths = new int[FIELDS];
        int used;

        boolean has(int f) {
            for (int i = 0; i < used; i++) {
                if (fields[i] == f) {
                    return true;
                }
            }
            return false;
        }

        void append(int f, int length) {
            if (used < FIELDS) {
                fields[used] = f;
                lengths[used] = length;
                used++;
            }
        }

        int bytesFor(Flow flow) {
            int sum = 0;
            for (int i = 0; i < used; i++) {
                sum += lengths[i] == VARIABLE ? 1 + fewestBytes(flow.valueOf(fields[i])) : lengths[i];
            }
            return sum;
        }

        void write(Flow flow, Report to) {
            for (int i = 0; i < used; i++) {
                int value = flow.valueOf(fields[i]);
                int length = lengths[i];
                if (length == VARIABLE) {
                    length = fewestBytes(value);
                    to.append(length);
                }
                to.appendNumber(value, length);
            }
        }

        static int fewestBytes(int value) {
            int bytes = 1;
            for (int rest = value >>> 8; rest != 0 && bytes < LONGEST_FIELD; rest >>>= 8) {
                bytes++;
            }
            return bytes;
        }
    }

    /** A template number of an exporter: its draft, and what is in force for it. */
    private static final class Slot {
        final int number;
        Layout draft = new Layout();
        Layout layout = new Layout();
        boolean inForce;
        int revision;
        int sealedAt;

        Slot(int number) {
            this.number = number;
        }

        void putInForce(int seal) {
            // The two layouts change places, so that a seal makes no new object.
            Layout spare = layout;
            layout = draft;
            draft = spare;
            draft.used = 0;
            inForce = true;
            revision++;
            sealedAt = seal;
        }

        void forget() {
            draft.used = 0;
            inForce = false;
            revision = 0;
        }
    }

    /** One that watches packets and writes reports. */
    private static final class Exporter {
        final int number;
        final ArrayList<Flow> cache = new ArrayList<>();
        final ArrayList<Flow> endedFlows = new ArrayList<>();
        final Slot[] slots = new Slot[TEMPLATES];
        int clock;
        int epoch;
        int sampleOf = 1;
        int sampleCounter;
        int seals;
        int written;
        int samplersWritten;

        Exporter(int number) {
            this.number = number;
            for (int i = 0; i < TEMPLATES; i++) {
                slots[i] = new Slot(i);
            }
        }

        int flowsHeld() {
            return cache.size() + endedFlows.size();
        }

        void sampleEvery(int n) {
            sampleOf = n;
            sampleCounter = 0;
        }

        boolean samplesNext() {
            boolean sampled = sampleCounter == 0;
            sampleCounter = sampleCounter + 1 >= sampleOf ? 0 : sampleCounter + 1;
            return sampled;
        }

        void watch(int source, int target, int service, int bytes, boolean finish) {
            int at = placeInCache(source, target, service);
            if (at == NONE) {
                if (cache.size() >= CACHE_ROOM) {
                    end(leastRecent(), PUT_OUT);
                }
                cache.add(new Flow(source, target, service, clock));
                at = cache.size() - 1;
            }
            cache.get(at).addPacket(bytes, clock);
            if (finish) {
                end(at, FINISHED);
            }
        }

        int placeInCache(int source, int target, int service) {
            for (int i = 0; i < cache.size(); i++) {
                if (cache.get(i).hasKey(source, target, service)) {
                    return i;
                }
            }
            return NONE;
        }

        int leastRecent() {
            int best = 0;
            for (int i = 1; i < cache.size(); i++) {
                if (cache.get(i).latest < cache.get(best).latest) {
                    best = i;
                }
            }
            return best;
        }

        void end(int at, int reason) {
            if (at < 0 || at >= cache.size()) {
                return;
            }
            Flow flow = cache.remove(at);
            flow.endedAt = clock;
            flow.reason = reason;
            endedFlows.add(flow);
        }

        int passTick() {
            clock++;
            int before = cache.size();
            int at = 0;
            for (int i = 0; i < before; i++) {
                int reason = cache.get(at).reasonToEnd(clock);
                if (reason == NOT_ENDED) {
                    at++;
                } else {
                    end(at, reason);
                }
            }
            return before - cache.size();
        }

        int flushCache() {
            int before = cache.size();
            for (int i = 0; i < before; i++) {
                end(0, FLUSHED);
            }
            return before;
        }

        int nextSeal() {
            seals++;
            return seals;
        }

        int numberSealedLast() {
            int best = NONE;
            for (int i = 0; i < TEMPLATES; i++) {
                if (slots[i].inForce && (best == NONE || slots[i].sealedAt > slots[best].sealedAt)) {
                    best = i;
                }
            }
            return best;
        }

        void beginNextEpoch() {
            epoch++;
            cache.clear();
            endedFlows.clear();
            for (int i = 0; i < TEMPLATES; i++) {
                slots[i].forget();
            }
            sampleEvery(1);
            written = 0;
            samplersWritten = 0;
        }

        Report writeTemplate(Slot slot) {
            Report made = new Report(number, epoch, TEMPLATE_KIND);
            made.append(slot.number);
            made.append(slot.revision);
            made.append(slot.layout.used);
            for (int i = 0; i < slot.layout.used; i++) {
                made.append(slot.layout.fields[i]);
                made.append(slot.layout.lengths[i]);
            }
            return made;
        }

        Report writeRecords(Slot slot) {
            int records = recordsThatFit(slot.layout);
            Report made = new Report(number, epoch, RECORDS_KIND);
            made.append(slot.number);
            made.append(slot.revision);
            made.append(records);
            made.append(written);
            for (int i = 0; i < records && !endedFlows.isEmpty(); i++) {
                slot.layout.write(endedFlows.remove(0), made);
            }
            written += records;
            return made;
        }

        int recordsThatFit(Layout layout) {
            int most = Math.min(endedFlows.size(), PLACES - written);
            int bytes = RECORDS_HEAD;
            for (int i = 0; i < most; i++) {
                bytes += layout.bytesFor(endedFlows.get(i));
                if (bytes > REPORT_BYTES) {
                    return i;
                }
            }
            return most;
        }

        Report writeSampler() {
            Report made = new Report(number, epoch, SAMPLER_KIND);
            made.append(samplersWritten);
            made.append(sampleOf);
            samplersWritten++;
            return made;
        }
    }

    /** A row of bytes; what they mean is asked only once they are known not to be bad. */
    private static final class Report {
        final int[] bytes;
        int used;

        Report(int exporter, int epoch, int kind) {
            bytes = new int[REPORT_BYTES];
            bytes[0] = exporter;
            bytes[1] = epoch;
            bytes[2] = kind;
            used = 3;
        }

        Report(Report from) {
            bytes = Arrays.copyOf(from.bytes, from.bytes.length);
            used = from.used;
        }

        void append(int v) {
            if (used < REPORT_BYTES) {
                bytes[used] = v & LARGEST_BYTE;
                used++;
            }
        }

        void appendNumber(int value, int length) {
            for (int i = length - 1; i >= 0; i--) {
                append(value >>> 8 * i);
            }
        }

        int exporter() {
            return bytes[0];
        }

        int epoch() {
            return bytes[1];
        }

        int kind() {
            return bytes[2];
        }

        int templateFields() {
            return bytes[5];
        }

        int templateField(int i) {
            return bytes[TEMPLATE_HEAD + 2 * i];
        }

        int templateLength(int i) {
            return bytes[TEMPLATE_HEAD + 2 * i + 1];
        }

        int records() {
            return bytes[5];
        }

        int firstPlace() {
            return bytes[6];
        }

        int samplersBefore() {
            return bytes[3];
        }

        int samplerN() {
            return bytes[4];
        }

        /** Of a template and of records alike: whether both name the same template. */
        boolean namesSameTemplate(Report that) {
            return bytes[0] == that.bytes[0] && bytes[1] == that.bytes[1]
                    && bytes[3] == that.bytes[3] && bytes[4] == that.bytes[4];
        }

        boolean isBad() {
            if (!isExporter(exporter()) || epoch() > LAST_EPOCH) {
                return true;
            }
            switch (kind()) {
                case TEMPLATE_KIND:
                    return namesNoTemplate() || isBadTemplate();
                case RECORDS_KIND:
                    return namesNoTemplate() || isBadRecords();
                case SAMPLER_KIND:
                    return used != SAMPLER_BYTES || samplerN() < 1 || samplerN() > LARGEST_SAMPLER;
                default:
                    return true;
            }
        }

        boolean namesNoTemplate() {
            return bytes[3] >= TEMPLATES || bytes[4] == 0;
        }

        boolean isBadTemplate() {
            int fields = templateFields();
            if (fields < 1 || fields > FIELDS || used != TEMPLATE_HEAD + 2 * fields) {
                return true;
            }
            int seen = 0;
            for (int i = 0; i < fields; i++) {
                int f = templateField(i);
                if (f >= FIELDS || (seen & 1 << f) != 0 || templateLength(i) > LONGEST_FIELD) {
                    return true;
                }
                seen |= 1 << f;
            }
            return false;
        }

        boolean isBadRecords() {
            return used < RECORDS_HEAD || records() == 0 || firstPlace() + records() > PLACES;
        }
    }

    /** Takes the fields of records one by one; once it has met something bad it stays bad. */
    private static final class Cursor {
        final Report records;
        int at = RECORDS_HEAD;
        boolean bad;

        Cursor(Report records) {
            this.records = records;
        }

        boolean isAtEnd() {
            return at == records.used;
        }

        long takeField(int length) {
            int bytes = length;
            if (length == VARIABLE) {
                bytes = takeByte();
                if (bytes < 1 || bytes > LONGEST_FIELD) {
                    bad = true;
                    return 0;
                }
            }
            long value = 0;
            for (int i = 0; i < bytes; i++) {
                value = value << 8 | takeByte();
            }
            return value;
        }

        int takeByte() {
            if (at >= records.used) {
                bad = true;
                return 0;
            }
            int taken = records.bytes[at];
            at++;
            return taken;
        }
    }

    /** A record as the collector read it. */
    private static final class Row {
        final int exporter;
        final long[] values = new long[FIELDS];

        Row(int exporter) {
            this.exporter = exporter;
            Arrays.fill(values, NO_VALUE);
        }

        boolean has(int f) {
            return values[f] != NO_VALUE;
        }

        boolean canBePaired() {
            return has(SOURCE) && has(TARGET) && has(SERVICE) && has(BEGAN);
        }

        boolean isReverseOf(Row that) {
            return exporter == that.exporter && values[SOURCE] == that.values[TARGET]
                    && values[TARGET] == that.values[SOURCE] && values[SERVICE] == that.values[SERVICE];
        }

        long ticksBetween(Row that) {
            return Math.abs(values[BEGAN] - that.values[BEGAN]);
        }
    }

    /** All rows, and which of them are two directions of one talk. */
    private static final class Table {
        final ArrayList<Row> list = new ArrayList<>();
        final int[] partner = new int[ROW_ROOM];
        final int[] order = new int[ROW_ROOM];
        int ordered;
        int pairedRows;

        boolean hasRoomFor(int more) {
            return list.size() + more <= ROW_ROOM;
        }

        void addRow(Row made) {
            if (hasRoomFor(1)) {
                list.add(made);
            }
        }

        long sumOf(int exporter, int f, long value, int what) {
            long sum = 0;
            for (int i = 0; i < list.size(); i++) {
                Row each = list.get(i);
                if (each.exporter == exporter && each.has(f) && each.values[f] == value && each.has(what)) {
                    sum += each.values[what];
                }
            }
            return sum;
        }

        int partnerOf(int at) {
            // Rows never change and never go, so the pairs hold until one more row has come.
            if (pairedRows != list.size()) {
                pairAll();
            }
            return partner[at];
        }

        void pairAll() {
            Arrays.fill(partner, NONE);
            putInOrder();
            for (int i = 0; i < ordered; i++) {
                int at = order[i];
                if (partner[at] == NONE) {
                    int found = nearestReverse(at);
                    if (found != NONE) {
                        partner[at] = found;
                        partner[found] = at;
                    }
                }
            }
            pairedRows = list.size();
        }

        void putInOrder() {
            ordered = 0;
            for (int i = 0; i < list.size(); i++) {
                if (list.get(i).canBePaired()) {
                    insertInOrder(i);
                }
            }
        }

        void insertInOrder(int at) {
            int to = ordered;
            while (to > 0 && list.get(order[to - 1]).values[BEGAN] > list.get(at).values[BEGAN]) {
                order[to] = order[to - 1];
                to--;
            }
            order[to] = at;
            ordered++;
        }

        int nearestReverse(int at) {
            Row own = list.get(at);
            int best = NONE;
            for (int i = 0; i < list.size(); i++) {
                Row each = list.get(i);
                if (i == at || partner[i] != NONE || !each.canBePaired() || !each.isReverseOf(own)) {
                    continue;
                }
                if (best == NONE || each.ticksBetween(own) < list.get(best).ticksBetween(own)) {
                    best = i;
                }
            }
            return best;
        }
    }

    /** What the collector has of one exporter beside its rows. */
    private static final class Ledger {
        final boolean[] heard = new boolean[(LAST_EPOCH + 1) * PLACES];
        int dropped;
        int spoilt;
        int notedSampler;
        int notedEpoch;
        int notedBefore;

        boolean heardOneOf(Report records) {
            int from = records.epoch() * PLACES + records.firstPlace();
            for (int i = 0; i < records.records(); i++) {
                if (heard[from + i]) {
                    return true;
                }
            }
            return false;
        }

        void markHeard(Report records) {
            int from = records.epoch() * PLACES + records.firstPlace();
            for (int i = 0; i < records.records(); i++) {
                heard[from + i] = true;
            }
        }

        int lostRecords() {
            int lost = 0;
            for (int epoch = 0; epoch <= LAST_EPOCH; epoch++) {
                lost += lostInEpoch(epoch);
            }
            return lost;
        }

        int lostInEpoch(int epoch) {
            int lost = 0;
            int sinceLastHeard = 0;
            boolean any = false;
            for (int place = 0; place < PLACES; place++) {
                if (heard[epoch * PLACES + place]) {
                    // A gap is lost only once a place behind it was heard.
                    lost += sinceLastHeard;
                    sinceLastHeard = 0;
                    any = true;
                } else if (any) {
                    sinceLastHeard++;
                }
            }
            return lost;
        }

        void noteSampler(Report told) {
            boolean isFirst = notedSampler == 0;
            boolean isLater = told.epoch() > notedEpoch
                    || told.epoch() == notedEpoch && told.samplersBefore() > notedBefore;
            if (isFirst || isLater) {
                notedSampler = told.samplerN();
                notedEpoch = told.epoch();
                notedBefore = told.samplersBefore();
            }
        }
    }

    /** Hears reports that are not bad in themselves. */
    private static final class Collector {
        // Known templates and waiting records are copies: a report may be poked after it was heard.
        final ArrayList<Report> known = new ArrayList<>();
        final ArrayList<Report> shelf = new ArrayList<>();
        final Table table = new Table();
        final Ledger ofFirst = new Ledger();
        final Ledger ofSecond = new Ledger();

        Ledger ledgerOf(int exporter) {
            return exporter == 0 ? ofFirst : ofSecond;
        }

        int waitingOf(int exporter) {
            int waiting = 0;
            for (int i = 0; i < shelf.size(); i++) {
                if (shelf.get(i).exporter() == exporter) {
                    waiting++;
                }
            }
            return waiting;
        }

        int knownTemplate(Report naming) {
            for (int i = 0; i < known.size(); i++) {
                if (known.get(i).namesSameTemplate(naming)) {
                    return i;
                }
            }
            return NONE;
        }

        int hearTemplate(Report template) {
            if (knownTemplate(template) != NONE) {
                return 0;
            }
            if (known.size() >= KNOWN_ROOM) {
                throw new UnsupportedOperationException("20 templates are known");
            }
            requireRoomFor(recordsWaitingFor(template));
            known.add(new Report(template));
            return readShelf(template);
        }

        int recordsWaitingFor(Report template) {
            int waiting = 0;
            for (int i = 0; i < shelf.size(); i++) {
                if (shelf.get(i).namesSameTemplate(template)) {
                    waiting += shelf.get(i).records();
                }
            }
            return waiting;
        }

        int readShelf(Report template) {
            int before = table.list.size();
            int waiting = shelf.size();
            int at = 0;
            for (int i = 0; i < waiting; i++) {
                if (shelf.get(at).namesSameTemplate(template)) {
                    readOrSpoil(shelf.remove(at), template);
                } else {
                    at++;
                }
            }
            return table.list.size() - before;
        }

        void readOrSpoil(Report records, Report template) {
            if (canRead(records, template)) {
                makeRows(records, template);
            } else {
                ledgerOf(records.exporter()).spoilt++;
            }
        }

        int hearRecords(Report records) {
            Ledger ledger = ledgerOf(records.exporter());
            if (ledger.heardOneOf(records)) {
                return 0;
            }
            int before = table.list.size();
            int at = knownTemplate(records);
            if (at == NONE) {
                putOnShelf(records);
            } else {
                readNow(records, known.get(at));
            }
            ledger.markHeard(records);
            return table.list.size() - before;
        }

        void readNow(Report records, Report template) {
            if (!canRead(records, template)) {
                throw new IllegalArgumentException("the records can't be read by their template");
            }
            requireRoomFor(records.records());
            makeRows(records, template);
        }

        void putOnShelf(Report records) {
            if (shelf.size() >= SHELF_ROOM) {
                ledgerOf(shelf.remove(0).exporter()).dropped++;
            }
            shelf.add(new Report(records));
        }

        void requireRoomFor(int records) {
            if (!table.hasRoomFor(records)) {
                throw new UnsupportedOperationException("there would be more than 80 rows");
            }
        }

        boolean canRead(Report records, Report template) {
            Cursor cursor = new Cursor(records);
            for (int i = 0; i < records.records(); i++) {
                for (int k = 0; k < template.templateFields(); k++) {
                    cursor.takeField(template.templateLength(k));
                }
            }
            return !cursor.bad && cursor.isAtEnd();
        }

        void makeRows(Report records, Report template) {
            Cursor cursor = new Cursor(records);
            for (int i = 0; i < records.records(); i++) {
                Row made = new Row(records.exporter());
                for (int k = 0; k < template.templateFields(); k++) {
                    made.values[template.templateField(k)] = cursor.takeField(template.templateLength(k));
                }
                table.addRow(made);
            }
        }
    }
}
