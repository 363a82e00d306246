import java.util.Arrays;
import java.util.List;

/** The document's sentences that name no boundary, from its first line on, with answers by hand. */
public final class WordsTest {
    private static final Check CHECK = new Check("WordsTest");

    public static void main(String[] args) {
        whatItIs();
        laterCalls();
        segmentsOfAPage();
        checkInItsWords();
        badOpenAndGood();
        appendedPages();
        unfinishedPackets();
        books();
        numbersOfVectors();
        codewords();
        factorAndRange();
        classes();
        valuesOfASetup();
        curvesOfChannels();
        laterPoints();
        lines();
        rows();
        passes();
        samples();
        constants();
        packetsOfTheWriter();
        events();
        marks();
        CHECK.end();
    }

    private static LacedSound with(Bits... packets) {
        LacedSound x = new LacedSound();
        for (Bits packet : packets) {
            CHECK.due("a packet that is good", Talk.tell(x, packet) > 0, true);
        }
        return x;
    }

    private static void entriesAre(LacedSound x, int... due) {
        for (int e = 0; e < due.length; e++) {
            CHECK.due("entry(0, " + e + ")", x.entry(0, e), due[e]);
        }
    }

    private static void curveIs(LacedSound x, int channel, int... due) {
        for (int k = 0; k < due.length; k++) {
            CHECK.due("curve(" + channel + ", " + k + ")", x.curve(channel, k), due[k]);
        }
    }

    private static void valuesAre(LacedSound x, int channel, int... due) {
        for (int k = 0; k < due.length; k++) {
            CHECK.due("value(" + channel + ", " + k + ")", x.value(channel, k), due[k]);
        }
    }

    private static void sends(LacedSound x, long bytes, int n, boolean last) {
        x.add(bytes, n);
        x.send(0, 9);
        x.flush(0, last);
    }

    private static void whatItIs() {
        CHECK.sentence("Carries packets of coded sound over a wire of bytes, in pages that bear a check; finds them again on a wire that was damaged; and decodes the whole-number part of the sound in them: codebooks, the rough curve of a block and its fine values.");
        LacedSound x = new LacedSound();
        sends(x, 0x0801L, 2, false);
        sends(x, 0xFFL, 1, false);
        CHECK.due("the last byte of the second page", x.alter(17 + 15, 1), true);
        sends(x, 0x7222C9248C03L, 6, false);
        sends(x, 0x0218804005L, 5, false);
        sends(x, 0x318254L, 3, true);
        // Each event with its amount and, for a packet, what take() answers.
        int[][] due = {{3, 2, 1}, {1, 16, -1}, {2, 1, -1}, {3, 6, 3}, {3, 5, 5}, {3, 3, 2}, {4, 4, -1}, {0, 4, -1}};
        for (int[] event : due) {
            CHECK.due("next()", x.next(), event[0]);
            CHECK.due("amount()", x.amount(), event[1]);
            CHECK.due("take()", x.take(), event[2]);
        }
        entriesAre(x, 4, 5, 6, 7, -1);
        curveIs(x, 0, 10, 8, 6, 4, -1);
        valuesAre(x, 0, 1, -2, -1, 0, 0);
    }

    private static void laterCalls() {
        CHECK.sentence("An object is used for at most 512 calls after it has been made; what later calls answer is free.");
        LacedSound x = new LacedSound();
        Packets.live(x);
        int calls = 0;
        for (int k = 0; k < 400; k++) {
            x.add(k * 0x9E3779B97F4A7C15L, k % 9);
            x.send(k % 4, k);
            x.flush(k % 3, false);
            x.next();
            x.take();
            x.cut(x.length() - 1 - k % 40, k % 40);
            x.curve(k % 2, k % 32);
            calls += 7;
        }
        CHECK.due("calls that all come to an end", calls, 2800);
    }

    private static void segmentsOfAPage() {
        CHECK.sentence("n LACING values, each 0 .. 15; and then the bytes of the segments, one segment after the other, each of as many bytes as its lacing value says.");
        LacedSound x = new LacedSound();
        Pages.put(x, List.of(76, 97, 76, 83, 2, 7, 0, 5, 0, 13, 103, 135, 88, 3, 3, 0, 2, 11, 12, 13, 21, 22));
        int[][] packets = {{11, 12, 13}, {}, {21, 22}};
        for (int[] packet : packets) {
            CHECK.due("next()", x.next(), 3);
            CHECK.due("amount()", x.amount(), packet.length);
            for (int k = 0; k < packet.length; k++) {
                CHECK.due("octet(" + k + ")", x.octet(k), packet[k]);
            }
            CHECK.due("the byte behind them", x.octet(packet.length), -1);
        }
        CHECK.due("next()", x.next(), 0);
    }

    /** The register of the document as 32 places, the lowest at 0. */
    private static boolean[] registerBehind(LacedSound x, int length) {
        boolean[] register = new boolean[32];
        for (int k = 0; k < length; k++) {
            int octet = k >= 9 && k < 13 ? 0 : x.wire(k);
            for (int bit = 128; bit > 0; bit /= 2) {
                boolean left = register[31];
                System.arraycopy(register, 0, register, 1, 31);
                register[0] = false;
                if (left != ((octet & bit) != 0)) {
                    for (int i = 0; i < 32; i++) {
                        register[i] ^= (0x04C11DB7 >> i & 1) == 1;
                    }
                }
            }
        }
        return register;
    }

    private static void checkInItsWords() {
        CHECK.sentence("for every byte its bits from the highest to the lowest; for every bit the register moves up by one place (its lowest bit becomes 0), and if the bit that left it at the top differs from the bit of the byte, it is xored with 0x04C11DB7.");
        for (int size = 0; size <= 64; size += 16) {
            LacedSound x = new LacedSound();
            for (int k = 0; k < size; k++) {
                x.add(37 * k + 200, 1);
            }
            x.send(2, 515);
            x.flush(2, size == 16);
            boolean[] register = registerBehind(x, x.length());
            for (int i = 0; i < 32; i++) {
                CHECK.due("bit " + i + " of CHECK", (x.wire(9 + i / 8) >> i % 8 & 1) == 1, register[i]);
            }
        }
    }

    private static void badOpenAndGood() {
        CHECK.sentence("A place p, from 0 to the length of the wire, is BAD if what stands from p on can't be a page: one of the four first bytes, FLAGS, the count or a lacing value is on the wire and is not as said, or all bytes of the page are on the wire and CHECK is wrong. If it is not BAD, it is OPEN when not all bytes of the page are on the wire yet (the place behind the last byte is OPEN), and GOOD otherwise.",
            "if it is GOOD, the page is read.");
        List<Integer> page = Pages.counting(Pages.FIRST, 3, 0, 9, 2);
        for (int ahead = 0; ahead < 20; ahead++) {
            LacedSound x = new LacedSound();
            Talk.fillWire(x, ahead);
            Pages.put(x, page.subList(0, 16));
            CHECK.due("bytes ahead of an OPEN place", x.next(), ahead > 0 ? 1 : 0);
            CHECK.due("amount()", x.amount(), ahead > 0 ? ahead : -1);
            CHECK.due("OPEN", x.next(), 0);
            x.raw(page.get(16), 1);
            CHECK.due("GOOD", x.next(), 3);
            CHECK.due("the place behind the last byte", x.next(), 0);
        }
    }

    private static void appendedPages() {
        CHECK.sentence("A page of a stream that goes out is appended to the wire:");
        LacedSound x = new LacedSound();
        x.raw(0x0605, 2);
        x.flush(3, false);
        x.raw(7, 1);
        x.flush(3, false);
        int[] places = {0, 1, 2, 7, 8, 16, 17, 22, 23};
        int[] due = {5, 6, 76, 3, 0, 7, 76, 3, 1};
        for (int k = 0; k < places.length; k++) {
            CHECK.due("wire(" + places[k] + ")", x.wire(places[k]), due[k]);
        }
        CHECK.due("length()", x.length(), 31);
    }

    private static void unfinishedPackets() {
        CHECK.sentence("An UNFINISHED packet of a stream is one of which segments were taken and the last one was not.",
            "A PIECE is counted whenever it is said so.");
        // The lacing values of a page, and whether the page behind it drops something.
        Integer[][] lacings = {{}, {14}, {15}, {15, 0}, {15, 15}, {15, 15, 1}, {3, 15}};
        boolean[] open = {false, false, true, false, true, false, true};
        for (int k = 0; k < open.length; k++) {
            LacedSound x = new LacedSound();
            Pages.put(x, Pages.counting(Pages.FIRST, 6, 0, 9, lacings[k]));
            Pages.put(x, Pages.counting(Pages.FIRST, 5, 0, 9, 15));
            while (x.next() != 0) {
                CHECK.due("pieces() so far", x.pieces(), 0);
            }
            Pages.put(x, Pages.counting(0, 6, 1, 9));
            CHECK.due("a page without segments", x.next(), 0);
            CHECK.due("pieces() behind " + Arrays.toString(lacings[k]), x.pieces(), open[k] ? 1 : 0);
        }
    }

    private static void books() {
        CHECK.sentence("the book has E entries 0 .. E - 1 of dimension D. 1 bit ORDERED. If it is 0: 1 bit SPARSE, then for every entry: if SPARSE, 1 bit whether it is used");
        Bits sparse = new Bits().put(3, 8).put(1, 2).put(4, 3).put(0, 1).put(1, 1);
        sparse.put(1, 1).put(1, 3).put(0, 1).put(1, 1).put(0, 3).put(0, 1).put(1, 1).put(1, 3);
        entriesAre(with(sparse.put(0, 2)), 4, 0, 3, 0, 5, -1);
        Bits dense = new Bits().put(3, 8).put(1, 2).put(2, 3).put(0, 1).put(0, 1).put(1, 3).put(1, 3).put(0, 3);
        entriesAre(with(dense.put(0, 2)), 4, 5, 3, -1);
        CHECK.sentence("If ORDERED is 1: 3 bits, the length l less 1; and while entries are without length:");
        Bits ordered = new Bits().put(3, 8).put(1, 2).put(2, 3).put(1, 1).put(0, 3).put(1, 2).put(2, 2);
        entriesAre(with(ordered.put(0, 2)), 2, 6, 7, -1);
    }

    /** Parts of two values: for each a kind of one bit, then an entry of book 1. */
    private static LacedSound pairs(Bits book) {
        Setup setup = new Setup();
        setup.end = 8;
        setup.partSize = 2;
        setup.has = 1;
        setup.books = new int[] {1};
        return with(Packets.format(1, 1, 1), Packets.lengths(1, 1).put(0, 2), book, setup.bits());
    }

    private static void numbersOfVectors() {
        CHECK.sentence("1 or 2: 4 bits MIN + 8 (so MIN is -8 .. 7), 3 bits STEP, 1 bit SUM, 2 bits w - 1; then numbers of w bits each:",
            "The number is the one numbered (e / R^i) mod R for KIND 1, e * D + i for KIND 2 (numbered from 0).");
        Bits one = Packets.even(2, 2).put(1, 2).put(7, 4).put(2, 3).put(0, 1).put(2, 2).put(5, 3).put(2, 3);
        LacedSound x = pairs(one);
        Talk.tell(x, Packets.channel(Packets.shortSound(), 1, 1).word("000").word("001").word("010").word("011"));
        valuesAre(x, 0, 9, 9, 3, 9, 9, 3, 3, 3);
        Bits two = Packets.even(2, 1).put(2, 2).put(7, 4).put(2, 3).put(0, 1).put(2, 2);
        LacedSound y = pairs(two.put(1, 3).put(2, 3).put(3, 3).put(4, 3));
        Talk.tell(y, Packets.channel(Packets.shortSound(), 1, 1).word("01").word("00").word("00").word("01"));
        valuesAre(y, 0, 5, 7, 1, 3, 1, 3, 5, 7);
    }

    private static void codewords() {
        CHECK.sentence("CODEWORDS: the used entries, from the lowest to the highest, each get the least codeword",
            "The codeword of an entry of a book: 2^length plus the codeword as a binary number;");
        // 000, 1, 01, 001.
        entriesAre(with(Packets.lengths(1, 3, 1, 2, 3).put(0, 2)), 8, 3, 5, 9, -1);
    }

    private static void factorAndRange() {
        CHECK.sentence("Curve: 2 bits G: the FACTOR is G + 1, and the RANGE 32, 16, 12, 8 for G = 0, 1, 2, 3;");
        int[] bits = {5, 4, 4, 3};
        int[] first = {31, 30, 33, 28};
        // RANGE - 1 - 3, times FACTOR.
        int[] middle = {28, 24, 24, 16};
        for (int g = 0; g < 4; g++) {
            Setup setup = new Setup();
            setup.g = g;
            setup.parts = new int[] {0};
            setup.subbooks[0][0] = 1;
            setup.r = 0;
            setup.places = new int[] {2};
            LacedSound x = with(Packets.format(1, 0, 0), Packets.evenBook(1, 2), setup.bits());
            Talk.tell(x, Packets.shortSound().put(1, 1).put(-1, bits[g]).put(-1, bits[g]).word("11"));
            CHECK.due("curve(0, 0) with G " + g, x.curve(0, 0), first[g]);
            CHECK.due("curve(0, 2) with G " + g, x.curve(0, 2), middle[g]);
        }
    }

    private static void classes() {
        CHECK.sentence(": 2 bits, its size less 1; 1 bit SPLIT; if SPLIT 2 bits, its master book; then once, or twice if SPLIT: 3 bits, a book's number plus 1, 0 for no book (its subbook 0, and 1). Then 2 bits r;");
        Bits setup = new Bits().put(5, 8).put(0, 2).put(1, 2).put(0, 1);
        setup.put(1, 2).put(1, 1).put(1, 2).put(0, 3).put(1, 3).put(1, 2).put(2, 3).put(6, 3);
        setup.put(0, 2).put(0, 5).put(0, 6).put(0, 3).put(0, 1).put(0, 2).put(0, 2).put(0, 1);
        LacedSound x = with(Packets.format(1, 1, 1), Packets.evenBook(1, 2), Packets.evenBook(1, 1), setup);
        // The master's 1: the first point from subbook 1, 2 of book 0; the second from subbook 0, which is none.
        Talk.tell(x, Packets.channel(Packets.shortSound(), 8, 8).word("1").word("10"));
        CHECK.due("block()", x.block(), 8);
        curveIs(x, 0, 8, 8, 9, 9, 9, 9, 9, 9);
    }

    /** A book of one entry, which takes one bit and stands for a value. */
    private static Bits always(int value) {
        return Packets.vectors(Packets.lengths(1, 1), 1, value, 0, 0, 1, 0);
    }

    private static void valuesOfASetup() {
        CHECK.sentence("; 3 bits, the part size less 1; 1 bit, the number of kinds less 1; 2 bits, the kinds' book; for each kind 2 bits: bit 0 says whether it has a book for pass 0, bit 1 for pass 1; then for each kind, pass 0 before pass 1, if it has one: 2 bits, the book;");
        // Kind 0 has book 1 in pass 0; kind 1 has book 2 in pass 0 and book 3 in pass 1.
        Bits setup = new Bits().put(5, 8).put(0, 2).put(0, 2).put(0, 2);
        setup.put(1, 2).put(0, 5).put(6, 6).put(1, 3).put(1, 1).put(0, 2);
        setup.put(1, 2).put(3, 2).put(1, 2).put(2, 2).put(3, 2).put(0, 1);
        LacedSound x = with(Packets.format(1, 1, 1), Packets.evenBook(1, 1), always(1), always(2), always(4), setup);
        Bits sound = Packets.channel(Packets.shortSound(), 1, 1).word("0").put(0, 2).word("1").put(0, 2).word("0").put(0, 2).put(0, 2);
        CHECK.due("bits of the SOUND", sound.count(), 24);
        Talk.tell(x, sound);
        CHECK.due("block()", x.block(), 8);
        valuesAre(x, 0, 1, 1, 6, 6, 1, 1, 0, 0);
    }

    private static void curvesOfChannels() {
        CHECK.sentence("CURVES, for every channel in order: 1 bit, whether the channel is used. If so, points 0 and 1 have a number each");
        LacedSound x = with(Packets.format(2, 0, 0), Packets.evenBook(1, 1), Packets.plainSetup());
        Talk.tell(x, new Bits().put(0, 2).put(1, 1).put(3, 5).put(3, 5).put(1, 1).put(9, 5).put(5, 5));
        CHECK.due("block()", x.block(), 24);
        curveIs(x, 0, 3, 3, 3, 3, -1);
        curveIs(x, 1, 9, 8, 7, 6, -1);
        Talk.tell(x, new Bits().put(0, 2).put(0, 1).put(1, 1).put(9, 5).put(5, 5));
        CHECK.due("block()", x.block(), 16);
        curveIs(x, 0, 0, 0, 0, 0, -1);
        curveIs(x, 1, 9, 8, 7, 6, -1);
    }

    private static void laterPoints() {
        CHECK.sentence("For each later point i in order, among the points before it:",
            "; p is the height of the straight LINE from LEFT to RIGHT at its place; let d = RANGE - p, v its number.");
        Setup setup = new Setup();
        setup.parts = new int[] {0};
        setup.size[0] = 2;
        setup.subbooks[0][0] = 1;
        setup.r = 1;
        setup.places = new int[] {4, 2};
        LacedSound x = with(Packets.format(1, 1, 1), Packets.evenBook(1, 2), setup.bits());
        // At 4: 8 on the line, 2 is 9. At 2, between 0 and 9: 4 on the line, 1 is 3.
        Talk.tell(x, Packets.channel(Packets.shortSound(), 0, 16).word("10").word("01"));
        curveIs(x, 0, 0, 1, 3, 6, 9, 10, 12, 14, -1);
    }

    private static void lines() {
        CHECK.sentence("The LINE from (x0, y0) to (x1, y1), x0 < x1, has at x the height",
            "The CURVE at x (of the places) is the height at x of the LINE between the neighbouring SET points around x");
        Setup setup = new Setup();
        setup.g = 1;
        setup.r = 0;
        LacedSound x = with(Packets.format(1, 1, 1), Packets.evenBook(1, 1), setup.bits());
        Talk.tell(x, Packets.shortSound().put(1, 1).put(9, 4).put(0, 4));
        curveIs(x, 0, 18, 14, 9, 5, 0, 0, 0, 0, -1);
        Talk.tell(x, Packets.shortSound().put(1, 1).put(0, 4).put(9, 4));
        curveIs(x, 0, 0, 4, 9, 13, 18, 18, 18, 18, -1);
    }

    /** A book of eight entries of three bits, whose values are their numbers times step. */
    private static Bits counting(int step) {
        return Packets.vectors(Packets.even(1, 3), 1, 0, step, 0, 3, 0, 1, 2, 3, 4, 5, 6, 7);
    }

    private static void rows() {
        CHECK.sentence("For MODE 0 and 1 each channel that is ON has a ROW of n / 2 cells, one for each place;");
        for (int mode = 0; mode < 2; mode++) {
            Setup setup = new Setup();
            setup.mode = mode;
            setup.end = 63;
            setup.has = 1;
            setup.books = new int[] {1};
            LacedSound x = with(Packets.format(2, 0, 0), Packets.lengths(1, 1).put(0, 2), counting(1), setup.bits());
            Bits both = Packets.channel(Packets.channel(Packets.shortSound(), 1, 1), 1, 1);
            both.put(0, 2).word("000").word("111").put(0, 2).word("001").word("110");
            both.put(0, 2).word("010").word("101").put(0, 2).word("011").word("100");
            Talk.tell(x, both);
            CHECK.due("block()", x.block(), 24);
            valuesAre(x, 0, 0, 1, 2, 3, 0);
            valuesAre(x, 1, 7, 6, 5, 4, 0);
            Bits second = Packets.channel(Packets.shortSound().put(0, 1), 1, 1);
            Talk.tell(x, second.put(0, 1).word("101").put(0, 1).word("110").put(0, 1).word("111").put(0, 1).word("001"));
            valuesAre(x, 0, 0, 0, 0, 0, 0);
            valuesAre(x, 1, 5, 6, 7, 1, 0);
        }
    }

    private static void passes() {
        CHECK.sentence("For pass 0, then for pass 1: the parts are gone through in groups",
            "Then for each part of the group in order, for each row in order: if the part's kind has a book in this pass");
        Setup setup = new Setup();
        setup.end = 2;
        setup.has = 3;
        setup.books = new int[] {1, 2};
        LacedSound x = with(Packets.format(2, 0, 0), Packets.lengths(2, 1).put(0, 2), counting(1), counting(7), setup.bits());
        Bits sound = Packets.channel(Packets.channel(Packets.shortSound(), 1, 1), 1, 1).put(0, 2);
        for (String word : List.of("000", "001", "010", "011", "100", "101", "110", "111")) {
            sound.word(word);
        }
        Talk.tell(x, sound);
        valuesAre(x, 0, 4 * 7, 2 + 6 * 7, 0, 0);
        valuesAre(x, 1, 1 + 5 * 7, 3 + 7 * 7, 0, 0);
    }

    private static void samples() {
        CHECK.sentence("SAMPLES: if there was a block since the FORMAT, ahead of this one, samples() grows by a quarter of that one's size plus a quarter of n.");
        LacedSound x = with(Packets.format(1, 0, 1), Packets.evenBook(1, 1), Packets.plainSetup());
        boolean[] isLong = {false, true, true, false, false};
        int[] due = {0, 6, 14, 20, 24};
        for (int k = 0; k < due.length; k++) {
            Talk.tell(x, isLong[k] ? Packets.longSound(0).put(0, 1) : Packets.shortSound().put(0, 1));
            CHECK.due("samples() with block " + k, x.samples(), due[k]);
        }
    }

    private static void constants() {
        CHECK.sentence("The constants: `NONE = -1`: Refused, or nothing there.");
        CHECK.due("NONE", LacedSound.NONE, -1);
        CHECK.due("a call that is refused", new LacedSound().raw(0, 0), LacedSound.NONE);
        CHECK.due("nothing there", new LacedSound().wire(0), LacedSound.NONE);
    }

    private static void packetsOfTheWriter() {
        CHECK.sentence("to the bytes AT HAND (the packet that the writer will send); answers how many are at hand.");
        LacedSound x = new LacedSound();
        CHECK.due("add of two", x.add(0x0201, 2), 2);
        CHECK.due("add of one", x.add(0x0403, 1), 3);
        x.send(1, 0);
        CHECK.sentence("Answers the number of its segments.");
        CHECK.due("flush of one segment", x.flush(1, false), 1);
        for (int k = 0; k < 3; k++) {
            CHECK.due("byte " + k, x.wire(15 + k), k + 1);
        }
        Talk.fill(x, 40);
        x.send(1, 0);
        CHECK.due("flush of three segments", x.flush(1, false), 3);
        CHECK.due("flush of none", x.flush(1, true), 0);
    }

    private static void events() {
        CHECK.sentence("The next event, as a number: 1 SKIPPED, 2 GAP, 3 PACKET, 4 END, 5 STRANGER; 0 when there is none now.",
            "PACKET: its bytes.");
        LacedSound x = new LacedSound();
        x.raw(0, 3);
        Pages.put(x, Pages.counting(Pages.FIRST, 1, 0, 9));
        Pages.put(x, Pages.counting(Pages.FIRST, 2, 0, 9));
        Pages.put(x, Pages.counting(Pages.FIRST, 3, 0, 9));
        Pages.put(x, Pages.counting(Pages.FIRST, 4, 0, 9, 1));
        Pages.put(x, Pages.counting(Pages.LAST, 2, 7, 9, 5));
        // Each event with its amount.
        int[][] due = {{1, 3}, {5, 16}, {2, 6}, {3, 5}, {4, 1}, {0, 1}};
        for (int[] event : due) {
            CHECK.due("next()", x.next(), event[0]);
            CHECK.due("amount() of event " + event[0], x.amount(), event[1]);
        }
    }

    private static void marks() {
        CHECK.sentence("The block: 1 if it is long, plus 2 for its first wing, 4 for its second, 8 if channel 0 is used, 16 if channel 1 is, 32 if its packet was OUT somewhere.");
        LacedSound x = with(Packets.format(2, 0, 1), Packets.evenBook(1, 1), Packets.plainSetup());
        Talk.tell(x, new Bits().put(0, 1).put(0, 1).put(0, 2));
        CHECK.due("a short block", x.block(), 0);
        Talk.tell(x, new Bits().put(0, 1).put(1, 1).put(1, 1).put(0, 1).put(0, 2));
        CHECK.due("the first wing", x.block(), 1 + 2);
        Talk.tell(x, new Bits().put(0, 1).put(1, 1).put(0, 1).put(1, 1).put(0, 2));
        CHECK.due("the second wing", x.block(), 1 + 4);
        Talk.tell(x, Packets.channel(Packets.longSound(3), 1, 1).put(1, 1));
        CHECK.due("OUT in channel 1", x.block(), 1 + 2 + 4 + 8 + 32);
        Talk.tell(x, Packets.channel(Packets.channel(Packets.longSound(3), 1, 1), 1, 1));
        CHECK.due("both channels", x.block(), 1 + 2 + 4 + 8 + 16);
    }
}
