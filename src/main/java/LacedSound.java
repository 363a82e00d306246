import java.util.Arrays;

/**
 * Packets of coded sound on a wire of bytes: a writer that laces them into pages, a reader that
 * finds them again on a damaged wire, and a decoder of the whole-number part of the sound.
 */
public final class LacedSound {
    public static final int NONE = -1;

    private static final int WIRE_LIMIT = 1000;
    private static final int PACKET_LIMIT = 64;
    private static final int WORD_BYTES = 8;
    private static final int WRITER_STREAMS = 4;
    private static final int NO_TIME = 65535;

    private static final int FULL_SEGMENT = 15;
    private static final int PAGE_SEGMENTS = 6;

    private static final int[] SIGN = {76, 97, 76, 83};
    private static final int FLAGS_AT = 4;
    private static final int SERIAL_AT = 5;
    private static final int NUMBER_AT = 6;
    private static final int TIME_AT = 7;
    private static final int CHECK_AT = 9;
    private static final int COUNT_AT = 13;
    private static final int HEAD = 14;
    private static final int ALL_FLAGS = 7;
    private static final int CONTINUED = 1;
    private static final int FIRST = 2;
    private static final int LAST = 4;

    // What stands at a place of the wire is one of these, or, where it is GOOD, the page's size.
    private static final int BAD = -1;
    private static final int OPEN = 0;

    private static final int NOTHING = 0;
    private static final int SKIPPED = 1;
    private static final int GAP = 2;
    private static final int PACKET = 3;
    private static final int END = 4;
    private static final int STRANGER = 5;

    private static final int REFUSED = 0;
    private static final int FORMAT = 1;
    private static final int SOUND = 2;
    private static final int BOOK = 3;
    private static final int SETUP = 5;

    private static final int BOOKS = 4;
    private static final int CHANNELS = 2;
    private static final int PLACES = 32;

    private final Wire line;
    private final int[] atHand;
    private int countAtHand;
    private final Outbox[] outboxes;
    private final Hand hand;
    private final Reader reader;
    private final Decoder decoder;

    public LacedSound() {
        line = new Wire();
        atHand = new int[PACKET_LIMIT];
        outboxes = new Outbox[WRITER_STREAMS];
        for (int k = 0; k < WRITER_STREAMS; k++) {
            outboxes[k] = new Outbox(k);
        }
        hand = new Hand();
        reader = new Reader(line, hand);
        decoder = new Decoder(hand);
    }

    public int add(long bytes, int n) {
        if (n < 1 || n > WORD_BYTES || countAtHand + n > PACKET_LIMIT) {
            return NONE;
        }
        for (int k = 0; k < n; k++) {
            atHand[countAtHand + k] = octetOf(bytes, k);
        }
        countAtHand += n;
        return countAtHand;
    }

    public int send(int stream, int time) {
        if (stream < 0 || stream >= WRITER_STREAMS || time < 0 || time >= NO_TIME) {
            return NONE;
        }
        int pages = outboxes[stream].post(line, atHand, countAtHand, time);
        if (pages != NONE) {
            countAtHand = 0;
        }
        return pages;
    }

    public int flush(int stream, boolean last) {
        if (stream < 0 || stream >= WRITER_STREAMS) {
            return NONE;
        }
        return outboxes[stream].empty(line, last);
    }

    public int raw(long bytes, int n) {
        if (n < 1 || n > WORD_BYTES || !line.hasRoom(n)) {
            return NONE;
        }
        for (int k = 0; k < n; k++) {
            line.append(octetOf(bytes, k));
        }
        return line.size;
    }

    public boolean alter(int place, int mask) {
        return line.change(place, mask);
    }

    public boolean cut(int place, int n) {
        return line.takeOut(place, n);
    }

    public int wire(int place) {
        return line.at(place);
    }

    public int length() {
        return line.size;
    }

    public int next() {
        return reader.advance();
    }

    public int amount() {
        return reader.latest.kind == NOTHING ? NONE : reader.latest.amount;
    }

    public int serial() {
        return reader.latest.kind == NOTHING ? NONE : reader.latest.serial;
    }

    public int time() {
        return reader.latest.kind == PACKET ? reader.latest.time : NONE;
    }

    public int octet(int k) {
        return hand.at(k);
    }

    public int pieces() {
        return reader.pieces;
    }

    public int take() {
        if (!hand.full) {
            return NONE;
        }
        hand.full = false;
        return decoder.decode();
    }

    public int entry(int book, int entry) {
        return decoder.codewordOf(book, entry);
    }

    public int block() {
        return decoder.blockSize == 0 ? NONE : decoder.marks;
    }

    public int curve(int channel, int place) {
        return decoder.hasPlace(channel, place) ? decoder.curves[channel][place] : NONE;
    }

    public int value(int channel, int place) {
        return decoder.hasPlace(channel, place) ? decoder.values[channel][place] : 0;
    }

    public int samples() {
        return decoder.samples;
    }

    private static int octetOf(long bytes, int k) {
        return (int) (bytes >>> (8 * k)) & 255;
    }

    /** The bytes, how far the reader has gone in them, and what a page of them looks like. */
    private static final class Wire {
        private static final int POLYNOMIAL = 0x04C11DB7;

        private final int[] bytes = new int[WIRE_LIMIT];
        private int size;
        private int readPlace;

        private boolean hasRoom(int n) {
            return n <= WIRE_LIMIT - size;
        }

        private void append(int octet) {
            if (size < WIRE_LIMIT) {
                bytes[size] = octet & 255;
                size++;
            }
        }

        private int at(int place) {
            return place >= 0 && place < size ? bytes[place] : NONE;
        }

        private boolean change(int place, int mask) {
            if (place < readPlace || place >= size || mask < 1 || mask > 255) {
                return false;
            }
            bytes[place] ^= mask;
            return true;
        }

        private boolean takeOut(int place, int n) {
            if (place < readPlace || place >= size || n < 1 || n > size - place) {
                return false;
            }
            System.arraycopy(bytes, place + n, bytes, place, size - place - n);
            size -= n;
            return true;
        }

        /** BAD, OPEN, or the size of the page that stands whole at a place. */
        private int pageAt(int place) {
            if (!canBeHead(place)) {
                return BAD;
            }
            int segments = at(place + COUNT_AT);
            if (segments == NONE) {
                return OPEN;
            }
            int total = HEAD + segments;
            for (int k = 0; k < segments; k++) {
                int lacing = at(place + HEAD + k);
                if (lacing == NONE) {
                    return OPEN;
                }
                if (lacing > FULL_SEGMENT) {
                    return BAD;
                }
                total += lacing;
            }
            if (total > size - place) {
                return OPEN;
            }
            return checkOf(place, total) == checkAt(place) ? total : BAD;
        }

        private boolean canBeHead(int place) {
            for (int k = 0; k < SIGN.length; k++) {
                int octet = at(place + k);
                if (octet != NONE && octet != SIGN[k]) {
                    return false;
                }
            }
            // NONE lies below both limits, so a byte that is not there yet is no fault.
            return at(place + FLAGS_AT) <= ALL_FLAGS && at(place + COUNT_AT) <= PAGE_SEGMENTS;
        }

        private int checkAt(int place) {
            int check = 0;
            for (int k = 3; k >= 0; k--) {
                check = check << 8 | at(place + CHECK_AT + k);
            }
            return check;
        }

        private int checkOf(int place, int total) {
            int register = 0;
            for (int k = 0; k < total; k++) {
                boolean inCheck = k >= CHECK_AT && k < COUNT_AT;
                int octet = inCheck ? 0 : at(place + k);
                for (int bit = 7; bit >= 0; bit--) {
                    boolean differs = register >>> 31 != (octet >> bit & 1);
                    register = differs ? register << 1 ^ POLYNOMIAL : register << 1;
                }
            }
            return register;
        }

        /** Writes the check into the page that reaches from a place to the end of the wire. */
        private void seal(int place) {
            if (place < 0 || size - place < HEAD) {
                return;
            }
            int check = checkOf(place, size - place);
            for (int k = 0; k < 4; k++) {
                bytes[place + CHECK_AT + k] = check >>> (8 * k) & 255;
            }
        }
    }

    /** A stream of the writer: the segments that wait there, and what went out before. */
    private static final class Outbox {
        // A call leaves five segments at most behind it, and a packet of 64 bytes brings five.
        private static final int ROOM = 10;

        private final int stream;
        private final int[] lacings = new int[ROOM];
        private final int[] octets = new int[ROOM * FULL_SEGMENT];
        private final int[] times = new int[ROOM];
        private final boolean[] begins = new boolean[ROOM];
        private int waiting;
        private int pages;
        private boolean ended;

        private Outbox(int stream) {
            this.stream = stream;
        }

        private int post(Wire wire, int[] packet, int size, int time) {
            int total = waiting + size / FULL_SEGMENT + 1;
            if (ended || total > ROOM) {
                return NONE;
            }
            // The segments lie behind those that wait and count for nothing until the call is sure.
            layOut(packet, size, time);
            boolean full = total >= PAGE_SEGMENTS;
            if (full && !wire.hasRoom(pageSize(PAGE_SEGMENTS))) {
                return NONE;
            }
            waiting = total;
            if (!full) {
                return 0;
            }
            putOut(wire, PAGE_SEGMENTS, false);
            return 1;
        }

        private int empty(Wire wire, boolean last) {
            int count = waiting;
            if (ended || !wire.hasRoom(pageSize(count))) {
                return NONE;
            }
            putOut(wire, count, last);
            ended = last;
            return count;
        }

        private void layOut(int[] packet, int size, int time) {
            int segment = waiting;
            for (int from = 0; from <= size && segment < ROOM; from += FULL_SEGMENT) {
                int lacing = Math.min(FULL_SEGMENT, size - from);
                lacings[segment] = lacing;
                times[segment] = time;
                begins[segment] = from == 0;
                System.arraycopy(packet, from, octets, segment * FULL_SEGMENT, lacing);
                segment++;
            }
        }

        private int pageSize(int count) {
            int total = HEAD + count;
            for (int k = 0; k < count; k++) {
                total += lacings[k];
            }
            return total;
        }

        private void putOut(Wire wire, int count, boolean last) {
            int start = wire.size;
            for (int k = 0; k < SIGN.length; k++) {
                wire.append(SIGN[k]);
            }
            wire.append(flagsOf(count, last));
            wire.append(stream);
            wire.append(pages);
            int time = timeOf(count);
            wire.append(time);
            wire.append(time >> 8);
            for (int k = CHECK_AT; k < COUNT_AT; k++) {
                wire.append(0);
            }
            wire.append(count);
            for (int k = 0; k < count; k++) {
                wire.append(lacings[k]);
            }
            for (int k = 0; k < count; k++) {
                for (int i = 0; i < lacings[k]; i++) {
                    wire.append(octets[k * FULL_SEGMENT + i]);
                }
            }
            wire.seal(start);
            pages++;
            forget(count);
        }

        private int flagsOf(int count, boolean last) {
            int flags = count > 0 && !begins[0] ? CONTINUED : 0;
            flags |= pages == 0 ? FIRST : 0;
            return flags | (last ? LAST : 0);
        }

        private int timeOf(int count) {
            int time = NO_TIME;
            for (int k = 0; k < count; k++) {
                if (lacings[k] < FULL_SEGMENT) {
                    time = times[k];
                }
            }
            return time;
        }

        private void forget(int count) {
            waiting -= count;
            for (int k = 0; k < waiting; k++) {
                lacings[k] = lacings[k + count];
                times[k] = times[k + count];
                begins[k] = begins[k + count];
            }
            System.arraycopy(octets, count * FULL_SEGMENT, octets, 0, waiting * FULL_SEGMENT);
        }
    }

    /**
     * The segments of a packet, by their places on the wire: bytes that were read are neither
     * altered nor cut any more, so they need not be copied.
     */
    private static final class Packet {
        // Every segment but the last takes 16 bytes of the wire, its lacing value with it.
        private static final int ROOM = WIRE_LIMIT / (FULL_SEGMENT + 1) + 2;

        private final int[] places = new int[ROOM];
        private int segments;
        private int size;

        private void clear() {
            segments = 0;
            size = 0;
        }

        private void extend(int place, int lacing) {
            if (segments < ROOM) {
                places[segments] = place;
                segments++;
                size += lacing;
            }
        }

        private void become(Packet other) {
            System.arraycopy(other.places, 0, places, 0, other.segments);
            segments = other.segments;
            size = other.size;
        }
    }

    /** A stream that the reader may know. */
    private static final class Inbox {
        private boolean known;
        private int serial;
        private int number;
        private int packets;
        private final Packet unfinished = new Packet();

        private void begin(int newSerial) {
            known = true;
            serial = newSerial;
            packets = 0;
            unfinished.clear();
        }
    }

    /** What a page gave; the time, the closing and the packet count for a PACKET alone. */
    private static final class Event {
        private int kind = NOTHING;
        private int amount;
        private int serial;
        private int time;
        private boolean closing;
        private final Packet packet = new Packet();

        private void set(int newKind, int newAmount, int newSerial) {
            kind = newKind;
            amount = newAmount;
            serial = newSerial;
        }
    }

    /** Goes along the wire and turns its pages into events. */
    private static final class Reader {
        private static final int STREAMS = 3;
        // A page gives a GAP, a packet for each of its segments and an END at most.
        private static final int EVENTS = PAGE_SEGMENTS + 2;

        private final Wire wire;
        private final Hand hand;
        private final Inbox[] inboxes = new Inbox[STREAMS];
        private final Event[] events = new Event[EVENTS];
        private int made;
        private int given;
        private final Event latest = new Event();
        private int pieces;

        private Reader(Wire wire, Hand hand) {
            this.wire = wire;
            this.hand = hand;
            for (int k = 0; k < STREAMS; k++) {
                inboxes[k] = new Inbox();
            }
            for (int k = 0; k < EVENTS; k++) {
                events[k] = new Event();
            }
        }

        private int advance() {
            for (int pages = 0; pages <= WIRE_LIMIT; pages++) {
                if (given < made) {
                    return give();
                }
                int page = wire.pageAt(wire.readPlace);
                if (page == OPEN) {
                    return NOTHING;
                }
                if (page == BAD) {
                    return skip();
                }
                readPage(page);
            }
            return NOTHING;
        }

        private int give() {
            Event event = events[given];
            given++;
            latest.set(event.kind, event.amount, event.serial);
            latest.time = event.time;
            if (event.kind == PACKET) {
                hand.load(wire, event);
            }
            return event.kind;
        }

        private int skip() {
            int place = wire.readPlace + 1;
            while (place < wire.size && wire.pageAt(place) == BAD) {
                place++;
            }
            latest.set(SKIPPED, place - wire.readPlace, NONE);
            wire.readPlace = place;
            return SKIPPED;
        }

        private void readPage(int size) {
            int start = wire.readPlace;
            wire.readPlace = start + size;
            made = 0;
            given = 0;
            int serial = wire.at(start + SERIAL_AT);
            Inbox inbox = inboxOf(serial);
            if (inbox == null) {
                makeEvent(STRANGER, size, serial);
                return;
            }
            int flags = wire.at(start + FLAGS_AT);
            enter(inbox, serial, flags, wire.at(start + NUMBER_AT));
            takeSegments(inbox, start, flags);
            if ((flags & LAST) != 0) {
                drop(inbox);
                makeEvent(END, inbox.packets, serial);
                inbox.known = false;
            }
        }

        /** The inbox that knows a serial, else one that knows none, else null. */
        private Inbox inboxOf(int serial) {
            Inbox free = null;
            for (int k = 0; k < STREAMS; k++) {
                Inbox inbox = inboxes[k];
                if (!inbox.known) {
                    free = inbox;
                } else if (inbox.serial == serial) {
                    return inbox;
                }
            }
            return free;
        }

        private void enter(Inbox inbox, int serial, int flags, int number) {
            int expected = inbox.number + 1 & 255;
            if (!inbox.known) {
                inbox.begin(serial);
            } else if ((flags & FIRST) != 0) {
                drop(inbox);
                inbox.packets = 0;
            } else if (number != expected) {
                makeEvent(GAP, number - expected & 255, serial);
                drop(inbox);
            }
            inbox.number = number;
        }

        private void takeSegments(Inbox inbox, int start, int flags) {
            int count = wire.at(start + COUNT_AT);
            int from = 0;
            if ((flags & CONTINUED) == 0) {
                drop(inbox);
            } else if (inbox.unfinished.segments == 0 && count > 0) {
                from = afterFirstEnd(start, count);
                pieces++;
            }
            int lastEnd = lastEndOf(start, count);
            int place = start + HEAD + count;
            for (int k = 0; k < count; k++) {
                int lacing = wire.at(start + HEAD + k);
                if (k >= from) {
                    inbox.unfinished.extend(place, lacing);
                    if (lacing < FULL_SEGMENT) {
                        finish(inbox, k == lastEnd ? start : NONE);
                    }
                }
                place += lacing;
            }
        }

        private int afterFirstEnd(int start, int count) {
            for (int k = 0; k < count; k++) {
                if (wire.at(start + HEAD + k) < FULL_SEGMENT) {
                    return k + 1;
                }
            }
            return count;
        }

        private int lastEndOf(int start, int count) {
            for (int k = count - 1; k >= 0; k--) {
                if (wire.at(start + HEAD + k) < FULL_SEGMENT) {
                    return k;
                }
            }
            return NONE;
        }

        /** Finishes a packet; the page that times and closes it begins at page, or is NONE. */
        private void finish(Inbox inbox, int page) {
            Packet packet = inbox.unfinished;
            Event event = makeEvent(PACKET, packet.size, inbox.serial);
            event.packet.become(packet);
            event.time = NO_TIME;
            event.closing = false;
            if (page != NONE) {
                event.time = wire.at(page + TIME_AT) | wire.at(page + TIME_AT + 1) << 8;
                event.closing = (wire.at(page + FLAGS_AT) & LAST) != 0;
            }
            packet.clear();
            inbox.packets++;
        }

        private Event makeEvent(int kind, int amount, int serial) {
            Event event = events[Math.min(made, EVENTS - 1)];
            event.set(kind, amount, serial);
            made = Math.min(made + 1, EVENTS);
            return event;
        }

        private void drop(Inbox inbox) {
            if (inbox.unfinished.segments > 0) {
                inbox.unfinished.clear();
                pieces++;
            }
        }
    }

    /** The packet in hand, and how far its bits have been read. */
    private static final class Hand {
        private final int[] octets = new int[WIRE_LIMIT];
        private boolean full;
        private int size;
        private int time;
        private boolean closing;
        private int position;
        private boolean out;

        private void load(Wire wire, Event event) {
            size = Math.min(event.packet.size, WIRE_LIMIT);
            for (int k = 0; k < size; k++) {
                // All segments but the last are full ones.
                int place = event.packet.places[k / FULL_SEGMENT] + k % FULL_SEGMENT;
                octets[k] = wire.at(place);
            }
            time = event.time;
            closing = event.closing;
            full = true;
        }

        private int at(int k) {
            return full && k >= 0 && k < size ? octets[k] : NONE;
        }

        private void rewind() {
            position = 0;
            out = false;
        }

        private int read(int count) {
            if (out || count > size * 8 - position) {
                out = true;
                return 0;
            }
            int number = 0;
            for (int k = 0; k < count; k++) {
                int bit = octets[position >> 3] >> (position & 7) & 1;
                number |= bit << k;
                position++;
            }
            return number;
        }

        private boolean readFlag() {
            return read(1) == 1;
        }
    }

    /** A codebook: the codewords of its entries and, if it has them, their vectors. */
    private static final class Book {
        private static final int ENTRIES = 8;
        private static final int DIMENSIONS = 4;
        private static final int LONGEST = 8;

        private int entries;
        private int dimension = 1;
        // A length of 0 is that of an entry which is not used.
        private final int[] lengths = new int[ENTRIES];
        // 2^length plus the codeword, so that codewords of different lengths differ as numbers.
        private final int[] marked = new int[ENTRIES];
        private int used;
        private boolean hasVectors;
        private final int[] numbers = new int[ENTRIES * DIMENSIONS];
        private final int[] components = new int[ENTRIES * DIMENSIONS];

        /** Reads a BOOK packet; answers whether it is accepted. */
        private boolean load(Hand bits) {
            dimension = bits.read(2) + 1;
            entries = bits.read(3) + 1;
            boolean ordered = bits.readFlag();
            if (ordered && !readOrderedLengths(bits)) {
                return false;
            }
            if (!ordered) {
                readLengths(bits);
            }
            return readVectors(bits) && !bits.out && giveCodewords();
        }

        private void readLengths(Hand bits) {
            boolean sparse = bits.readFlag();
            for (int e = 0; e < entries; e++) {
                boolean isUsed = !sparse || bits.readFlag();
                lengths[e] = isUsed ? bits.read(3) + 1 : 0;
            }
        }

        private boolean readOrderedLengths(Hand bits) {
            int length = bits.read(3) + 1;
            int done = 0;
            for (; done < entries && length <= LONGEST; length++) {
                int left = entries - done;
                int count = bits.read(binaryDigits(left));
                if (count > left) {
                    return false;
                }
                for (int k = 0; k < count; k++) {
                    lengths[done] = length;
                    done++;
                }
            }
            return done == entries;
        }

        private static int binaryDigits(int number) {
            int digits = 1;
            for (int rest = number / 2; rest > 0; rest /= 2) {
                digits++;
            }
            return digits;
        }

        private boolean readVectors(Hand bits) {
            int kind = bits.read(2);
            hasVectors = kind != 0;
            if (kind == 0 || kind == 3) {
                return kind == 0;
            }
            int least = bits.read(4) - 8;
            int step = bits.read(3);
            boolean sum = bits.readFlag();
            int width = bits.read(2) + 1;
            int root = rootOfEntries();
            int count = kind == 1 ? root : entries * dimension;
            for (int k = 0; k < count; k++) {
                numbers[k] = bits.read(width);
            }
            for (int e = 0; e < entries; e++) {
                int power = 1;
                for (int i = 0; i < dimension; i++) {
                    int cell = e * dimension + i;
                    int number = numbers[kind == 1 ? e / power % root : cell];
                    int before = sum && i > 0 ? components[cell - 1] : 0;
                    components[cell] = least + step * number + before;
                    power *= root;
                }
            }
            return true;
        }

        /** The greatest number whose power by the dimension is at most the number of entries. */
        private int rootOfEntries() {
            int root = 1;
            for (int r = 2; r <= entries; r++) {
                int power = 1;
                for (int i = 0; i < dimension; i++) {
                    power *= r;
                }
                if (power <= entries) {
                    root = r;
                }
            }
            return root;
        }

        private boolean giveCodewords() {
            int sum = 0;
            used = 0;
            for (int e = 0; e < entries; e++) {
                if (lengths[e] > 0) {
                    sum += 1 << LONGEST - lengths[e];
                    used++;
                }
            }
            boolean alone = used == 1 && sum == 1 << LONGEST - 1;
            if (sum != 1 << LONGEST && !alone) {
                return false;
            }
            for (int e = 0; e < entries; e++) {
                marked[e] = lengths[e] > 0 ? leastFree(e) : 0;
            }
            return true;
        }

        private int leastFree(int entry) {
            int first = 1 << lengths[entry];
            for (int word = first; word < 2 * first; word++) {
                if (isFree(word, entry)) {
                    return word;
                }
            }
            return 0;
        }

        private boolean isFree(int word, int entry) {
            int length = lengths[entry];
            for (int e = 0; e < entry; e++) {
                int shared = Math.min(length, lengths[e]);
                boolean clash = word >> length - shared == marked[e] >> lengths[e] - shared;
                if (lengths[e] > 0 && clash) {
                    return false;
                }
            }
            return true;
        }

        /** The entry whose codeword comes next; NONE when the bits are OUT. */
        private int readEntry(Hand bits) {
            int word = 1;
            for (int k = 0; k < LONGEST; k++) {
                word = word << 1 | bits.read(1);
                if (bits.out) {
                    return NONE;
                }
                for (int e = 0; e < entries; e++) {
                    boolean alone = used == 1 && marked[e] != 0;
                    if (alone || marked[e] == word) {
                        return e;
                    }
                }
            }
            return NONE;
        }
    }

    /** The part of a setup that tells the curves, and the work on the curve of one channel. */
    private static final class CurvePlan {
        private static final int[] RANGES = {32, 16, 12, 8};
        private static final int[] NUMBER_BITS = {5, 4, 4, 3};
        private static final int PARTS = 3;
        private static final int CLASSES = 2;
        private static final int SUBBOOKS = 2;
        private static final int POINTS = 2 + PARTS * 4;

        private int grain;
        private int parts;
        private final int[] partClass = new int[PARTS];
        private final int[] classSize = new int[CLASSES];
        private final boolean[] split = new boolean[CLASSES];
        private final int[] master = new int[CLASSES];
        private final int[] subbooks = new int[CLASSES * SUBBOOKS];
        private int points;
        private final int[] places = new int[POINTS];
        private final int[] numbers = new int[POINTS];
        private final int[] heights = new int[POINTS];
        private final boolean[] set = new boolean[POINTS];

        /** Reads the curve's part of a SETUP packet; answers whether nothing in it is refused. */
        private boolean load(Hand bits, int bookCount) {
            grain = bits.read(2);
            parts = bits.read(2);
            int classes = 0;
            for (int k = 0; k < parts; k++) {
                partClass[k] = bits.read(1);
                classes = Math.max(classes, partClass[k] + 1);
            }
            for (int k = 0; k < classes; k++) {
                if (!loadClass(bits, k, bookCount)) {
                    return false;
                }
            }
            return loadPoints(bits);
        }

        private boolean loadClass(Hand bits, int k, int bookCount) {
            classSize[k] = bits.read(2) + 1;
            split[k] = bits.readFlag();
            master[k] = split[k] ? bits.read(2) : NONE;
            int first = bits.read(3) - 1;
            int second = split[k] ? bits.read(3) - 1 : NONE;
            subbooks[k * SUBBOOKS] = first;
            subbooks[k * SUBBOOKS + 1] = second;
            return master[k] < bookCount && first < bookCount && second < bookCount;
        }

        private boolean loadPoints(Hand bits) {
            int width = bits.read(2) + 2;
            places[0] = 0;
            places[1] = 1 << width;
            points = 2;
            for (int k = 0; k < parts; k++) {
                for (int i = 0; i < classSize[partClass[k]]; i++) {
                    int place = bits.read(width);
                    if (isTaken(place)) {
                        return false;
                    }
                    places[points] = place;
                    points++;
                }
            }
            return true;
        }

        private boolean isTaken(int place) {
            for (int k = 0; k < points; k++) {
                if (places[k] == place) {
                    return true;
                }
            }
            return false;
        }

        /** Reads a channel's curve into a row; answers whether the channel is used. */
        private boolean decode(Hand bits, Book[] books, int[] row, int width) {
            if (!bits.readFlag() || !readNumbers(bits, books)) {
                return false;
            }
            raise();
            draw(row, width);
            return true;
        }

        private boolean readNumbers(Hand bits, Book[] books) {
            for (int k = 0; k < 2; k++) {
                numbers[k] = Math.min(bits.read(NUMBER_BITS[grain]), RANGES[grain] - 1);
            }
            int point = 2;
            for (int k = 0; k < parts; k++) {
                int kind = partClass[k];
                int choice = split[kind] ? books[master[kind]].readEntry(bits) : 0;
                for (int i = 0; i < classSize[kind] && choice != NONE; i++) {
                    int book = subbooks[kind * SUBBOOKS + choice % SUBBOOKS];
                    numbers[point] = book == NONE ? 0 : books[book].readEntry(bits);
                    choice /= SUBBOOKS;
                    point++;
                }
            }
            return !bits.out;
        }

        /** Finds the heights of the points, and which of them are SET. */
        private void raise() {
            for (int k = 0; k < 2; k++) {
                heights[k] = numbers[k];
                set[k] = true;
            }
            for (int k = 2; k < points; k++) {
                int left = 0;
                int right = 1;
                for (int i = 2; i < k; i++) {
                    if (places[i] < places[k] && places[i] > places[left]) {
                        left = i;
                    }
                    if (places[i] > places[k] && places[i] < places[right]) {
                        right = i;
                    }
                }
                int onLine = heightBetween(left, right, places[k], 1);
                heights[k] = heightOf(numbers[k], onLine);
                set[k] = numbers[k] != 0;
                if (set[k]) {
                    set[left] = true;
                    set[right] = true;
                }
            }
        }

        private int heightOf(int number, int onLine) {
            int range = RANGES[grain];
            int above = range - onLine;
            if (number == 0) {
                return onLine;
            }
            if (number < 2 * Math.min(above, onLine)) {
                return number % 2 == 1 ? onLine - (number + 1) / 2 : onLine + number / 2;
            }
            return above > onLine ? number : range - 1 - number;
        }

        private int heightBetween(int left, int right, int x, int factor) {
            int from = heights[left] * factor;
            int to = heights[right] * factor;
            int run = Math.max(1, places[right] - places[left]);
            int rise = Math.abs(to - from) * (x - places[left]) / run;
            return to >= from ? from + rise : from - rise;
        }

        private void draw(int[] row, int width) {
            int factor = grain + 1;
            for (int x = 0; x < width; x++) {
                int left = 0;
                // Point 1 is always SET and lies behind all others.
                int right = 1;
                for (int k = 2; k < points; k++) {
                    if (set[k] && places[k] <= x && places[k] > places[left]) {
                        left = k;
                    }
                    if (set[k] && places[k] > x && places[k] < places[right]) {
                        right = k;
                    }
                }
                boolean behind = x >= places[1];
                row[x] = behind ? heights[1] * factor : heightBetween(left, right, x, factor);
            }
        }
    }

    /** The part of a setup that tells the values, and the work on the rows of one block. */
    private static final class ValuePlan {
        private static final int KINDS = 2;
        private static final int PASSES = 2;
        private static final int CELLS = CHANNELS * PLACES;
        private static final int SPREAD = 0;
        private static final int MIXED = 2;
        private static final int NO_MODE = 3;

        private int channels = 1;
        private int mode;
        private int begin;
        private int end;
        private int partSize = 1;
        private int kinds = 1;
        private int kindsBook;
        private final int[] passBooks = new int[KINDS * PASSES];
        private boolean joined;
        private int rows;
        private final int[] rowChannel = new int[CHANNELS];
        private final int[][] kindOfPart = new int[CHANNELS][CELLS];

        /** Reads the values' part of a SETUP packet; answers whether nothing in it is refused. */
        private boolean load(Hand bits, Book[] books, int bookCount, int formatChannels) {
            channels = formatChannels;
            mode = bits.read(2);
            begin = bits.read(5);
            end = bits.read(6);
            partSize = bits.read(3) + 1;
            kinds = bits.read(1) + 1;
            kindsBook = bits.read(2);
            if (mode == NO_MODE || end < begin || kindsBook >= bookCount) {
                return false;
            }
            int has = bits.read(PASSES * kinds);
            for (int k = 0; k < PASSES * kinds; k++) {
                int book = (has >> k & 1) == 1 ? bits.read(2) : NONE;
                if (book >= bookCount || book != NONE && !suits(books[book])) {
                    return false;
                }
                passBooks[k] = book;
            }
            joined = bits.readFlag();
            return !joined || channels == CHANNELS;
        }

        private boolean suits(Book book) {
            return book.hasVectors && partSize % book.dimension == 0;
        }

        /** Adds up the values of a block whose channels have width places each. */
        private void decode(Hand bits, Book[] books, int usedChannels, int[][] values, int width) {
            chooseRows(usedChannels);
            int cells = mode == MIXED ? channels * width : width;
            int parts = (Math.min(end, cells) - Math.min(begin, cells)) / partSize;
            Book kindsOf = books[kindsBook];
            for (int pass = 0; pass < PASSES; pass++) {
                for (int part = 0; part < parts && !bits.out; part++) {
                    if (pass == 0 && part % kindsOf.dimension == 0) {
                        readKinds(bits, kindsOf, part);
                    }
                    for (int row = 0; row < rows && !bits.out; row++) {
                        int book = passBooks[kindOfPart[row][part] * PASSES + pass];
                        if (book != NONE) {
                            addPart(bits, books[book], part, rowChannel[row], values);
                        }
                    }
                }
            }
        }

        private void chooseRows(int usedChannels) {
            boolean any = usedChannels != 0;
            rows = 0;
            if (mode == MIXED) {
                rows = any ? 1 : 0;
                return;
            }
            for (int c = 0; c < channels; c++) {
                boolean on = joined ? any : (usedChannels >> c & 1) == 1;
                if (on) {
                    rowChannel[rows] = c;
                    rows++;
                }
            }
        }

        private void readKinds(Hand bits, Book kindsOf, int first) {
            for (int row = 0; row < rows; row++) {
                int left = kindsOf.readEntry(bits);
                if (left == NONE) {
                    return;
                }
                for (int part = first + kindsOf.dimension - 1; part >= first; part--) {
                    // A last group may reach beyond the parts that are there.
                    if (part < CELLS) {
                        kindOfPart[row][part] = left % kinds;
                    }
                    left /= kinds;
                }
            }
        }

        private void addPart(Hand bits, Book book, int part, int channel, int[][] values) {
            // Where there is a part, BEGIN is less than the number of cells.
            int from = begin + part * partSize;
            int entries = partSize / book.dimension;
            for (int j = 0; j < entries; j++) {
                int entry = book.readEntry(bits);
                if (entry == NONE) {
                    return;
                }
                for (int i = 0; i < book.dimension; i++) {
                    int offset = mode == SPREAD ? j + i * entries : j * book.dimension + i;
                    int cell = from + offset;
                    int component = book.components[entry * book.dimension + i];
                    if (mode == MIXED) {
                        values[cell % channels][cell / channels] += component;
                    } else {
                        values[channel][cell] += component;
                    }
                }
            }
        }
    }

    /** Takes the packet in hand for what it is, and keeps what has been decoded so far. */
    private static final class Decoder {
        private static final int LONG = 1;
        private static final int OUT = 32;

        private final Hand hand;
        private final Book[] books = new Book[BOOKS];
        private int bookCount;
        // 0 channels: no FORMAT yet.
        private int channels;
        private int shortSize;
        private int longSize;
        private boolean hasSetup;
        private CurvePlan curvePlan = new CurvePlan();
        private ValuePlan valuePlan = new ValuePlan();
        // A setup is read into the spare plans, so that a refused one changes nothing.
        private CurvePlan spareCurvePlan = new CurvePlan();
        private ValuePlan spareValuePlan = new ValuePlan();
        // 0: there is no block.
        private int blockSize;
        private int marks;
        private final int[][] curves = new int[CHANNELS][PLACES];
        private final int[][] values = new int[CHANNELS][PLACES];
        private int samples;

        private Decoder(Hand hand) {
            this.hand = hand;
            for (int k = 0; k < BOOKS; k++) {
                books[k] = new Book();
            }
        }

        private int codewordOf(int book, int entry) {
            if (book < 0 || book >= bookCount || entry < 0 || entry >= books[book].entries) {
                return NONE;
            }
            return books[book].marked[entry];
        }

        private boolean hasPlace(int channel, int place) {
            boolean hasChannel = channel >= 0 && channel < channels;
            return hasChannel && place >= 0 && place < blockSize / 2;
        }

        private int decode() {
            hand.rewind();
            if (hand.size == 0) {
                return REFUSED;
            }
            if (!hand.readFlag()) {
                return decodeSound() ? SOUND : REFUSED;
            }
            int kind = hand.read(7) << 1 | 1;
            switch (kind) {
                case FORMAT:
                    return decodeFormat() ? FORMAT : REFUSED;
                case BOOK:
                    return decodeBook() ? BOOK : REFUSED;
                case SETUP:
                    return decodeSetup() ? SETUP : REFUSED;
                default:
                    return REFUSED;
            }
        }

        private boolean decodeFormat() {
            int newChannels = hand.read(1) + 1;
            int a = hand.read(2);
            int b = hand.read(2);
            if (hand.out || a > b) {
                return false;
            }
            channels = newChannels;
            shortSize = 8 << a;
            longSize = 8 << b;
            hasSetup = false;
            blockSize = 0;
            samples = 0;
            return true;
        }

        private boolean decodeBook() {
            // The book is read into its place and is there only once it is counted.
            if (bookCount >= BOOKS || !books[bookCount].load(hand)) {
                return false;
            }
            bookCount++;
            return true;
        }

        private boolean decodeSetup() {
            if (channels == 0 || !spareCurvePlan.load(hand, bookCount)) {
                return false;
            }
            if (!spareValuePlan.load(hand, books, bookCount, channels) || hand.out) {
                return false;
            }
            CurvePlan oldCurvePlan = curvePlan;
            curvePlan = spareCurvePlan;
            spareCurvePlan = oldCurvePlan;
            ValuePlan oldValuePlan = valuePlan;
            valuePlan = spareValuePlan;
            spareValuePlan = oldValuePlan;
            hasSetup = true;
            return true;
        }

        private boolean decodeSound() {
            int shape = hand.readFlag() ? LONG | hand.read(2) << 1 : 0;
            if (!hasSetup || hand.out) {
                return false;
            }
            int sizeBefore = blockSize;
            blockSize = shape == 0 ? shortSize : longSize;
            int width = blockSize / 2;
            int used = 0;
            for (int c = 0; c < channels; c++) {
                Arrays.fill(curves[c], 0);
                Arrays.fill(values[c], 0);
                boolean isUsed = curvePlan.decode(hand, books, curves[c], width);
                used |= isUsed ? 1 << c : 0;
            }
            valuePlan.decode(hand, books, used, values, width);
            if (valuePlan.joined) {
                unjoin(width);
            }
            marks = shape | used << 3 | (hand.out ? OUT : 0);
            countSamples(sizeBefore);
            return true;
        }

        /** Turns the two joined channels back into what each of them has. */
        private void unjoin(int width) {
            for (int x = 0; x < width; x++) {
                int m = values[0][x];
                int a = values[1][x];
                if (a > 0) {
                    values[1][x] = m > 0 ? m - a : m + a;
                } else {
                    values[0][x] = m > 0 ? m + a : m - a;
                    values[1][x] = m;
                }
            }
        }

        private void countSamples(int sizeBefore) {
            if (sizeBefore > 0) {
                samples += sizeBefore / 4 + blockSize / 4;
            }
            if (hand.closing && hand.time != NO_TIME && hand.time < samples) {
                samples = hand.time;
            }
        }
    }
}
