import java.util.ArrayList;
import java.util.List;
import java.util.function.Consumer;

/** The boundaries of promises 2, 3 and 4 and of the term WRITER, sentence by sentence. */
public final class WriterEdgesTest {
    private static final Check CHECK = new Check("WriterEdgesTest");
    private static final int[] NO_STREAMS = {-1, 4, 5, Integer.MIN_VALUE, Integer.MAX_VALUE};

    public static void main(String[] args) {
        addsLowestBytes();
        addRefusesCounts();
        addRefusesMoreThan64();
        fourStreams();
        segmentsOfEverySize();
        sendOfNothing();
        sixGoOut();
        restWaits();
        nothingAtHandThen();
        sendRefusesStreams();
        sendRefusesTimes();
        sendRefusesALongWire();
        sendWithoutAPage();
        flushOfEveryCount();
        flushEndsTheStream();
        flushRefusesStreams();
        flushRefusesALongWire();
        continued();
        first();
        numberWraps();
        timeOfThePage();
        streamsApart();
        anyReason();
        CHECK.end();
    }

    /** The bytes from, from + 1, .. as a list. */
    private static List<Integer> row(int from, int n) {
        List<Integer> bytes = new ArrayList<>();
        for (int k = 0; k < n; k++) {
            bytes.add(from + k & 255);
        }
        return bytes;
    }

    private static void wireIs(String what, LacedSound x, int from, List<Integer> bytes) {
        CHECK.due(what + ": length()", x.length(), from + bytes.size());
        for (int k = 0; k < bytes.size(); k++) {
            CHECK.due(what + ": wire(" + (from + k) + ")", x.wire(from + k), bytes.get(k));
        }
    }

    /** Some bytes at hand, some segments that wait, a page on the wire that is not read. */
    private static void busy(LacedSound x) {
        x.add(0x030201, 3);
        x.send(1, 9);
        x.add(0x0504, 2);
        x.send(0, 8);
        x.flush(0, false);
        x.add(0x0706, 2);
    }

    private static void addsLowestBytes() {
        CHECK.sentence("Appends the n lowest bytes of a number, the lowest first, to the bytes AT HAND");
        for (int n = 1; n <= 8; n++) {
            LacedSound x = new LacedSound();
            CHECK.due("add of " + n, x.add(0xF8F7F6F5F4F3F2F1L, n), n);
            CHECK.due("add of " + n + " more", x.add(0x0807060504030201L, n), 2 * n);
            x.send(2, 0);
            x.flush(2, false);
            List<Integer> bytes = row(0xF1, n);
            bytes.addAll(row(1, n));
            List<Integer> lacings = 2 * n < 15 ? List.of(2 * n) : List.of(15, 2 * n - 15);
            wireIs("n is " + n, x, 0, Pages.of(Pages.FIRST, 2, 0, 0, lacings, bytes));
        }
    }

    private static void addRefusesCounts() {
        CHECK.sentence("Refused, answering NONE, when n is not 1 .. 8");
        for (int n : new int[] {0, -1, 9, 16, Integer.MIN_VALUE, Integer.MAX_VALUE}) {
            Twins.refused(CHECK, "add with n " + n, WriterEdgesTest::busy, x -> x.add(-1, n), -1);
            CHECK.due("add with n " + n + " on a new object", new LacedSound().add(-1, n), -1);
        }
    }

    private static void addRefusesMoreThan64() {
        CHECK.sentence("or there would be more than 64.");
        for (int n = 1; n <= 8; n++) {
            int size = n;
            LacedSound x = new LacedSound();
            Talk.fill(x, 64 - size);
            CHECK.due("add of " + size + " up to 64", x.add(5, size), 64);
            CHECK.due("add of the 65th", x.add(5, 1), -1);
            CHECK.due("send of 64", x.send(0, 1), 0);
            CHECK.due("flush of 64", x.flush(0, false), 5);
            Twins.refused(CHECK, "add of " + size + " up to 65", y -> Talk.fill(y, 65 - size), y -> y.add(5, size), -1);
        }
    }

    private static void fourStreams() {
        CHECK.sentence("It has four streams 0 .. 3 (their SERIAL).");
        LacedSound x = new LacedSound();
        for (int stream = 0; stream < 4; stream++) {
            CHECK.due("send to " + stream, x.send(stream, 9), 0);
            CHECK.due("flush of " + stream, x.flush(stream, false), 1);
            CHECK.due("SERIAL", x.wire(15 * stream + 5), stream);
        }
        CHECK.due("send to 4", x.send(4, 9), -1);
        CHECK.due("flush of 4", x.flush(4, false), -1);
        CHECK.due("send to -1", x.send(-1, 9), -1);
        CHECK.due("flush of -1", x.flush(-1, false), -1);
    }

    private static void segmentsOfEverySize() {
        CHECK.sentence("A packet is a list of 0 .. 64 bytes. A packet of m bytes makes m / 15 segments of 15 bytes and one of the remaining 0 .. 14, so that only its last segment is below 15.");
        for (int m = 0; m <= 64; m++) {
            LacedSound x = new LacedSound();
            List<Integer> bytes = row(100, m);
            Talk.addAll(x, bytes);
            CHECK.due("send of " + m, x.send(3, 258), 0);
            CHECK.due("flush of " + m, x.flush(3, false), m / 15 + 1);
            List<Integer> lacings = new ArrayList<>();
            for (int left = m; left >= 15; left -= 15) {
                lacings.add(15);
            }
            lacings.add(m % 15);
            wireIs(m + " bytes", x, 0, Pages.of(Pages.FIRST, 3, 0, 258, lacings, bytes));
            CHECK.due("next()", x.next(), 3);
            CHECK.due("amount()", x.amount(), m);
        }
    }

    private static void sendOfNothing() {
        CHECK.sentence("The bytes at hand (also if there are none) are a packet, with a time, of a stream of the writer: its segments wait behind those that wait already");
        LacedSound x = new LacedSound();
        CHECK.due("send of none", x.send(0, 3), 0);
        x.add(9, 1);
        CHECK.due("send of one behind it", x.send(0, 4), 0);
        CHECK.due("send of none behind that", x.send(0, 5), 0);
        CHECK.due("flush", x.flush(0, false), 3);
        wireIs("a packet between empty ones", x, 0, Pages.of(Pages.FIRST, 0, 0, 5, List.of(0, 1, 0), List.of(9)));
    }

    private static void sixGoOut() {
        CHECK.sentence("as long as six or more wait, the first six go out in a page, not LAST.");
        for (int waiting = 0; waiting <= 5; waiting++) {
            for (int segments = 1; segments <= 5; segments++) {
                LacedSound x = new LacedSound();
                for (int k = 0; k < waiting; k++) {
                    x.add(k, 1);
                    CHECK.due("send of one segment", x.send(2, k), 0);
                }
                Talk.addAll(x, row(50, 15 * segments - 11));
                int total = waiting + segments;
                boolean full = total >= 6;
                String what = segments + " segments behind " + waiting;
                CHECK.due(what + ": send", x.send(2, 99), full ? 1 : 0);
                CHECK.due(what + ": a page went out", x.length() > 0, full);
                if (full) {
                    CHECK.due(what + ": FLAGS", x.wire(4), Pages.FIRST);
                    CHECK.due(what + ": the count", x.wire(13), 6);
                    CHECK.due(what + ": the bytes", x.length(), 20 + waiting + (total == 6 ? 15 * segments - 11 : 15 * (6 - waiting)));
                }
                CHECK.due(what + ": those that wait", x.flush(2, false), full ? total - 6 : total);
            }
        }
    }

    private static void restWaits() {
        CHECK.sentence("as long as six or more wait, the first six go out in a page");
        for (int waiting = 1; waiting <= 5; waiting++) {
            for (int size = 60; size <= 64; size++) {
                LacedSound x = new LacedSound();
                List<Integer> lacings = new ArrayList<>();
                List<Integer> bytes = new ArrayList<>();
                for (int k = 0; k < waiting; k++) {
                    Talk.addAll(x, row(10 * k, k));
                    x.send(1, k);
                    lacings.add(k);
                    bytes.addAll(row(10 * k, k));
                }
                Talk.addAll(x, row(100, size));
                bytes.addAll(row(100, size));
                lacings.addAll(List.of(15, 15, 15, 15, size - 60));
                String what = size + " bytes behind " + waiting;
                CHECK.due(what + ": send", x.send(1, 77), 1);
                int out = lacings.subList(0, 6).stream().mapToInt(k -> k).sum();
                int time = waiting == 1 ? 77 : waiting - 1;
                List<Integer> page = Pages.of(Pages.FIRST, 1, 0, time, lacings.subList(0, 6), bytes.subList(0, out));
                wireIs(what + ": the page", x, 0, page);
                CHECK.due(what + ": flush", x.flush(1, false), waiting - 1);
                List<Integer> rest = lacings.subList(6, lacings.size());
                int flags = rest.isEmpty() ? 0 : Pages.CONTINUED;
                List<Integer> last = Pages.of(flags, 1, 1, rest.isEmpty() ? 65535 : 77, rest, bytes.subList(out, bytes.size()));
                wireIs(what + ": the rest", x, page.size(), last);
            }
        }
    }

    private static void nothingAtHandThen() {
        CHECK.sentence("No bytes are at hand then. Answers how many pages went out.");
        LacedSound x = new LacedSound();
        Talk.fill(x, 64);
        x.send(0, 0);
        CHECK.due("add behind a send without a page", x.add(1, 8), 8);
        Talk.fill(x, 56);
        CHECK.due("send with a page", x.send(0, 0), 1);
        CHECK.due("add behind a send with a page", x.add(1, 8), 8);
    }

    private static void sendRefusesStreams() {
        CHECK.sentence("Refused, answering NONE (the bytes stay at hand), when the stream is not 0 .. 3 or has ended");
        for (int stream : NO_STREAMS) {
            Twins.refused(CHECK, "send to stream " + stream, WriterEdgesTest::busy, x -> x.send(stream, 0), -1);
        }
        for (int stream = 0; stream < 4; stream++) {
            int ended = stream;
            Consumer<LacedSound> past = x -> {
                busy(x);
                x.flush(ended, true);
            };
            Twins.refused(CHECK, "send to the ended stream " + ended, past, x -> x.send(ended, 0), -1);
            LacedSound x = new LacedSound();
            x.flush(ended, true);
            for (int other = 0; other < 4; other++) {
                CHECK.due("send to " + other + " when " + ended + " has ended", x.send(other, 0), other == ended ? -1 : 0);
            }
        }
    }

    private static void sendRefusesTimes() {
        CHECK.sentence("time is not 0 .. 65534");
        for (int time : new int[] {-1, 65535, 65536, Integer.MIN_VALUE, Integer.MAX_VALUE}) {
            Twins.refused(CHECK, "send at " + time, WriterEdgesTest::busy, x -> x.send(1, time), -1);
        }
        for (int time : new int[] {0, 1, 255, 256, 65533, 65534}) {
            LacedSound x = new LacedSound();
            x.add(4, 1);
            CHECK.due("send at " + time, x.send(1, time), 0);
            x.flush(1, false);
            wireIs("the page of time " + time, x, 0, Pages.of(Pages.FIRST, 1, 0, time, List.of(1), List.of(4)));
        }
    }

    private static void sendRefusesALongWire() {
        CHECK.sentence("or the wire would be longer than 1000 with these pages.");
        for (int size : new int[] {0, 14, 15, 64}) {
            int page = 20 + Math.min(size, 15);
            Consumer<LacedSound> past = x -> {
                for (int k = 0; k < 5; k++) {
                    x.send(2, k);
                }
                Talk.addAll(x, row(1, size));
                Talk.fillWire(x, 1001 - page);
            };
            Twins.refused(CHECK, "send of " + size + " up to 1001", past, x -> x.send(2, 7), -1);
            LacedSound x = new LacedSound();
            past.accept(x);
            CHECK.due("cut of one", x.cut(0, 1), true);
            CHECK.due("send of " + size + " up to 1000", x.send(2, 7), 1);
            CHECK.due("length()", x.length(), 1000);
            CHECK.due("the bytes are at hand no more", x.add(1, 1), 1);
        }
    }

    private static void sendWithoutAPage() {
        CHECK.sentence("or the wire would be longer than 1000 with these pages.");
        LacedSound x = new LacedSound();
        Talk.fillWire(x, 1000);
        for (int k = 0; k < 5; k++) {
            CHECK.due("a send without a page on a full wire", x.send(0, k), 0);
        }
        CHECK.due("a send with a page on a full wire", x.send(0, 5), -1);
        CHECK.due("length()", x.length(), 1000);
        x.cut(0, 19);
        CHECK.due("those that wait", x.flush(0, false), 5);
    }

    private static void flushOfEveryCount() {
        CHECK.sentence("A page of a stream of the writer goes out with all segments that wait there, also if there are none");
        for (int count = 0; count <= 5; count++) {
            for (int last = 0; last < 2; last++) {
                LacedSound x = new LacedSound();
                for (int k = 0; k < count; k++) {
                    x.add(k, 1);
                    x.send(1, 30 + k);
                }
                CHECK.due("flush of " + count, x.flush(1, last == 1), count);
                List<Integer> lacings = new ArrayList<>(java.util.Collections.nCopies(count, 1));
                int time = count == 0 ? 65535 : 29 + count;
                wireIs("a page of " + count, x, 0, Pages.of(Pages.FIRST + 4 * last, 1, 0, time, lacings, row(0, count)));
                CHECK.due("flush of none then", x.flush(1, false), last == 1 ? -1 : 0);
            }
        }
    }

    private static void flushEndsTheStream() {
        CHECK.sentence("LAST if last, and the stream has ended then.");
        LacedSound x = new LacedSound();
        x.flush(0, false);
        CHECK.due("FLAGS without last", x.wire(4), Pages.FIRST);
        CHECK.due("a stream that has not ended", x.flush(0, false), 0);
        CHECK.due("last", x.flush(0, true), 0);
        CHECK.due("FLAGS with last", x.wire(32), Pages.LAST);
        CHECK.due("a stream that has ended", x.flush(0, false), -1);
        CHECK.due("a stream that has ended, with last", x.flush(0, true), -1);
        CHECK.due("length()", x.length(), 42);
    }

    private static void flushRefusesStreams() {
        CHECK.sentence("Refused, answering NONE, when the stream is not 0 .. 3 or has ended");
        for (int stream : NO_STREAMS) {
            Twins.refused(CHECK, "flush of stream " + stream, WriterEdgesTest::busy, x -> x.flush(stream, true), -1);
        }
        for (int stream = 0; stream < 4; stream++) {
            int ended = stream;
            Consumer<LacedSound> past = x -> {
                busy(x);
                x.flush(ended, true);
            };
            Twins.refused(CHECK, "flush of the ended stream " + ended, past, x -> x.flush(ended, false), -1);
            LacedSound x = new LacedSound();
            x.flush(ended, true);
            for (int other = 0; other < 4; other++) {
                CHECK.due("flush of " + other + " when " + ended + " has ended", x.flush(other, false), other == ended ? -1 : 0);
            }
        }
    }

    private static void flushRefusesALongWire() {
        CHECK.sentence("or the wire would be longer than 1000 with the page.");
        for (int size : new int[] {-1, 0, 1, 15, 64}) {
            int page = size < 0 ? 14 : 14 + size / 15 + 1 + size;
            Consumer<LacedSound> past = x -> {
                if (size >= 0) {
                    Talk.addAll(x, row(1, size));
                    x.send(3, 5);
                }
                Talk.fillWire(x, 1001 - page);
            };
            Twins.refused(CHECK, "flush up to 1001", past, x -> x.flush(3, false), -1);
            Twins.refused(CHECK, "flush with last up to 1001", past, x -> x.flush(3, true), -1);
            LacedSound x = new LacedSound();
            past.accept(x);
            x.cut(0, 1);
            CHECK.due("flush up to 1000", x.flush(3, false), size < 0 ? 0 : size / 15 + 1);
            CHECK.due("length()", x.length(), 1000);
            CHECK.due("FLAGS: the refused one was no page", x.wire(1000 - page + 4), Pages.FIRST);
        }
    }

    private static void continued() {
        CHECK.sentence("CONTINUED if it has a segment and its first one isn't the first of its packet");
        for (int waiting = 1; waiting <= 5; waiting++) {
            LacedSound x = new LacedSound();
            for (int k = 0; k < waiting; k++) {
                x.send(0, k);
            }
            Talk.fill(x, 64);
            // With one that waits, the page ends with the packet; with more, within it.
            CHECK.due("a page with " + waiting + " ahead", x.send(0, 9), 1);
            CHECK.due("the page is not CONTINUED", x.wire(4), Pages.FIRST);
            int start = x.length();
            CHECK.due("the rest", x.flush(0, false), waiting - 1);
            CHECK.due("the rest is CONTINUED", x.wire(start + 4), waiting > 1 ? Pages.CONTINUED : 0);
            x.flush(0, false);
            CHECK.due("a page without segments is not", x.wire(x.length() - 10), 0);
            x.send(0, 1);
            start = x.length();
            x.flush(0, true);
            CHECK.due("a page that begins with a packet is not", x.wire(start + 4), Pages.LAST);
        }
    }

    private static void first() {
        CHECK.sentence("FIRST if no page of that stream went out before");
        LacedSound x = new LacedSound();
        for (int stream = 0; stream < 4; stream++) {
            x.flush(stream, false);
            CHECK.due("the first page of " + stream, x.wire(14 * stream + 4), Pages.FIRST);
        }
        for (int stream = 0; stream < 4; stream++) {
            x.flush(stream, stream == 3);
            CHECK.due("the second page of " + stream, x.wire(56 + 14 * stream + 4), stream == 3 ? Pages.LAST : 0);
        }
        LacedSound y = new LacedSound();
        for (int k = 0; k < 6; k++) {
            y.send(1, k);
        }
        CHECK.due("a page that a send put out", y.wire(4), Pages.FIRST);
        y.flush(1, false);
        CHECK.due("the one behind it", y.wire(24), 0);
        y.cut(0, y.length());
        y.flush(1, false);
        CHECK.due("a page that was cut went out all the same", y.wire(4), 0);
    }

    private static void numberWraps() {
        CHECK.sentence("NUMBER is how many went out before, mod 256");
        LacedSound x = new LacedSound();
        for (int k = 0; k < 258; k++) {
            int start = 14 * (k % 70);
            x.flush(0, false);
            if (k < 2 || k == 127 || k == 128 || k > 253) {
                CHECK.due("NUMBER of page " + k, x.wire(start + 6), k % 256);
                CHECK.due("FLAGS of page " + k, x.wire(start + 4), k == 0 ? Pages.FIRST : 0);
            }
            if (k % 70 == 69) {
                x.cut(0, 980);
            }
        }
        x.flush(1, false);
        CHECK.due("NUMBER of another stream", x.wire(x.length() - 14 + 6), 0);
    }

    private static void timeOfThePage() {
        CHECK.sentence("TIME the time of the last packet whose last segment is in the page, 65535 if there is none.");
        LacedSound x = new LacedSound();
        x.flush(0, false);
        CHECK.due("TIME without segments", x.wire(7) + 256 * x.wire(8), 65535);
        x.send(0, 300);
        x.send(0, 20);
        x.flush(0, false);
        CHECK.due("TIME of two packets", x.wire(14 + 7) + 256 * x.wire(14 + 8), 20);
        for (int size = 14; size <= 16; size++) {
            LacedSound y = new LacedSound();
            for (int k = 0; k < 5; k++) {
                y.send(0, 40 + k);
            }
            Talk.fill(y, size);
            CHECK.due("a page with the first segment of " + size, y.send(0, 600), 1);
            CHECK.due("its TIME", y.wire(7) + 256 * y.wire(8), size < 15 ? 600 : 44);
            int start = y.length();
            y.flush(0, false);
            CHECK.due("TIME of the rest", y.wire(start + 7) + 256 * y.wire(start + 8), size < 15 ? 65535 : 600);
        }
    }

    private static void streamsApart() {
        CHECK.sentence("The segments of a stream WAIT, in their order, until they go out in a page.");
        LacedSound x = new LacedSound();
        for (int k = 0; k < 20; k++) {
            x.add(k, 1);
            CHECK.due("send " + k, x.send(k % 4, k), 0);
        }
        for (int stream = 0; stream < 4; stream++) {
            int start = x.length();
            CHECK.due("flush of " + stream, x.flush(stream, false), 5);
            List<Integer> bytes = List.of(stream, stream + 4, stream + 8, stream + 12, stream + 16);
            wireIs("stream " + stream, x, start, Pages.of(Pages.FIRST, stream, 0, stream + 16, List.of(1, 1, 1, 1, 1), bytes));
        }
    }

    private static void anyReason() {
        CHECK.sentence("Every method that can refuse does so if any of its reasons holds.");
        LacedSound x = new LacedSound();
        Talk.fill(x, 64);
        CHECK.due("add of none with 64 at hand", x.add(1, 0), -1);
        CHECK.due("add of nine with 64 at hand", x.add(1, 9), -1);
        x.flush(0, true);
        CHECK.due("send to an ended stream at a wrong time", x.send(0, -1), -1);
        CHECK.due("send to no stream at a wrong time", x.send(4, 65535), -1);
        Talk.fillWire(x, 1000);
        CHECK.due("flush of an ended stream on a full wire", x.flush(0, true), -1);
        CHECK.due("flush of no stream on a full wire", x.flush(-1, false), -1);
        CHECK.due("the bytes stay at hand", x.send(1, 1), 0);
        x.cut(0, 100);
        CHECK.due("and they are 64", x.flush(1, false), 5);
    }
}
