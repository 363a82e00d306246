import java.util.ArrayList;
import java.util.List;

/** The boundaries of promise 16, of the BITS of a packet and of a FORMAT, sentence by sentence. */
public final class PacketEdgesTest {
    private static final Check CHECK = new Check("PacketEdgesTest");

    public static void main(String[] args) {
        lowestBitFirst();
        numbersOverBytes();
        outForGood();
        everyFirstByte();
        noFirstByte();
        outAnywhere();
        bitsBeyond();
        inHandNoMore();
        noneInHand();
        refusedFormats();
        formatChangesNothing();
        acceptedFormat();
        booksStay();
        blockSizes();
        channelsOfAFormat();
        CHECK.end();
    }

    private static LacedSound live() {
        LacedSound x = new LacedSound();
        Packets.live(x);
        return x;
    }

    private static int take(LacedSound x, List<Integer> packet) {
        return Talk.bring(x, 3, 0, false, packet) ? x.take() : -2;
    }

    private static int take(LacedSound x, Integer... packet) {
        return take(x, List.of(packet));
    }

    private static void lowestBitFirst() {
        CHECK.sentence("in a number of k bits the bit read first is the lowest.");
        // Behind the bit of the channels: a in bits 1 and 2, b in bits 3 and 4.
        CHECK.due("a is 1, b is 2", take(new LacedSound(), 1, 0b10010), 1);
        CHECK.due("a is 2, b is 1", take(new LacedSound(), 1, 0b01100), 0);
        CHECK.due("a is 1, b is 1", take(new LacedSound(), 1, 0b01010), 1);
        CHECK.due("a is 1, b is 0", take(new LacedSound(), 1, 0b00010), 0);
        CHECK.due("a is 3, b is 3, two channels", take(new LacedSound(), 1, 0b11111), 1);
    }

    private static void numbersOverBytes() {
        CHECK.sentence("BITS of a packet are read byte after byte, in every byte from the lowest bit on");
        // Three entries of lengths 2, 2, 1: the first length begins in the last bit of byte 1.
        LacedSound x = new LacedSound();
        CHECK.due("a BOOK", take(x, 3, 136, 4, 0), 3);
        int[] due = {4, 5, 3};
        for (int e = 0; e < 3; e++) {
            CHECK.due("entry(0, " + e + ")", x.entry(0, e), due[e]);
        }
        CHECK.due("without the last bit of byte 1", take(new LacedSound(), 3, 8, 4, 0), 0);
        CHECK.due("with a bit of byte 2 instead", take(new LacedSound(), 3, 8, 5, 0), 0);
    }

    /** Two channels; the curve has no parts; a row of cells, each with an entry of one bit. */
    private static LacedSound oneBitCells() {
        LacedSound x = new LacedSound();
        Talk.tell(x, Packets.format(2, 0, 0));
        Talk.tell(x, Packets.vectors(Packets.even(1, 1), 1, 1, 1, 0, 1, 0, 1));
        CHECK.due("SETUP", Talk.tell(x, Packets.values(Packets.bareCurve(0, 0), 1, 0, 4, 1, 1, 0).put(1, 2).put(0, 2).put(0, 1)), 5);
        return x;
    }

    private static void outForGood() {
        CHECK.sentence("A read that needs more bits than are left reads none, gives 0, and from then on the packet is OUT: every later read of it gives 0 too.");
        // Channel 0 is whole; two bits are left for the first number of channel 1, which needs 5.
        LacedSound x = oneBitCells();
        Bits sound = Packets.channel(Packets.shortSound(), 6, 6).put(1, 1).put(3, 2);
        CHECK.due("bits", sound.count(), 16);
        CHECK.due("SOUND", Talk.tell(x, sound), 2);
        CHECK.due("block()", x.block(), 8 + 32);
        CHECK.due("the two bits are no entries", x.value(0, 0), 0);
        // With a 0 in the place of the bit of channel 1, the same two bits are a kind and a value.
        LacedSound y = oneBitCells();
        Talk.tell(y, Packets.channel(Packets.shortSound(), 6, 6).put(0, 1).put(3, 2));
        CHECK.due("block()", y.block(), 8 + 32);
        CHECK.due("the two bits are entries", y.value(0, 0), 2);
        // Just enough: 24 bits for all of the block.
        LacedSound z = oneBitCells();
        Talk.tell(z, Packets.channel(Packets.shortSound(), 6, 6).put(0, 1).put(0xFF, 8).put(0, 2));
        CHECK.due("block() with bits enough", z.block(), 8);
    }

    private static void everyFirstByte() {
        CHECK.sentence("Its first bit is 0: a SOUND packet, which goes on with the next bit. Else its first byte says: 1 a FORMAT packet, 3 a BOOK packet, 5 a SETUP packet, which go on behind it; any other is refused.");
        for (int first = 0; first < 256; first++) {
            int due = first % 2 == 0 ? 2 : first == 1 || first == 3 || first == 5 ? first : 0;
            CHECK.due("a packet that begins with " + first, take(live(), first, 0, 0, 0, 0, 0, 0, 0, 0), due);
        }
        for (int first : new int[] {7, 9, 65, 129, 131, 133, 255}) {
            Twins.refusedPacket(CHECK, "a packet that begins with " + first, Packets::live, List.of(first, 0, 0, 0, 0, 0, 0));
        }
    }

    private static void noFirstByte() {
        CHECK.sentence("A packet that is OUT within its first byte (or has none) is refused");
        Twins.refusedPacket(CHECK, "a packet without a byte", Packets::live, List.of());
        Twins.refusedPacket(CHECK, "a packet without a byte on a new object", x -> { }, List.of());
        CHECK.due("a SOUND of one byte", take(live(), 0), 2);
    }

    private static void outAnywhere() {
        CHECK.sentence("and so is a FORMAT, BOOK or SETUP packet that is OUT anywhere.");
        Bits format = Packets.format(1, 1, 2);
        Bits book = Packets.vectors(Packets.even(2, 2), 2, 3, 1, 0, 3, 1, 2, 3, 4, 5, 6, 7, 1);
        Bits setup = Packets.values(Packets.bareCurve(1, 1), 0, 0, 9, 2, 2, 1).put(15, 4).put(0b10_01_10_01, 8).put(0, 1);
        List<Bits> packets = List.of(format, book, setup);
        int[] kinds = {1, 3, 5};
        for (int k = 0; k < 3; k++) {
            List<Integer> bytes = packets.get(k).bytes();
            CHECK.due("a whole packet of kind " + kinds[k], take(live(), bytes), kinds[k]);
            for (int n = 1; n < bytes.size(); n++) {
                Twins.refusedPacket(CHECK, n + " bytes of a packet of kind " + kinds[k], Packets::live, bytes.subList(0, n));
            }
        }
    }

    private static void bitsBeyond() {
        CHECK.sentence("Bits beyond those that are told here are not looked at.");
        List<Bits> packets = List.of(Packets.format(1, 0, 1), Packets.evenBook(1, 1), Packets.plainSetup());
        for (Bits packet : packets) {
            int kind = packet.bytes().get(0);
            LacedSound x = live();
            CHECK.due("kind " + kind + " with ones behind it", take(x, packet.put(-1, 16).bytes()), kind);
            CHECK.due("entry(3, 1)", x.entry(3, 1), kind == 3 ? 3 : -1);
        }
        LacedSound x = live();
        Talk.tell(x, Packets.format(1, 0, 1).put(-1, 11));
        Talk.tell(x, Packets.plainSetup());
        CHECK.due("a SOUND with ones behind it", Talk.tell(x, Packets.shortSound().put(0, 1).put(-1, 29)), 2);
        CHECK.due("block()", x.block(), 0);
        CHECK.due("curve(0, 3)", x.curve(0, 3), 0);
        CHECK.due("curve(0, 4)", x.curve(0, 4), -1);
        Talk.tell(x, Packets.longSound(0).put(0, 1).put(-1, 27));
        CHECK.due("curve(0, 7) of a long block", x.curve(0, 7), 0);
        CHECK.due("curve(0, 8) of a long block", x.curve(0, 8), -1);
    }

    private static void inHandNoMore() {
        CHECK.sentence("Decodes the packet in hand, which is in hand no more, also when it is refused: answers 1 for a FORMAT, 2 for a SOUND, 3 for a BOOK, 5 for a SETUP packet, 0 when it is refused.");
        int[] firsts = {1, 0, 3, 5, 7};
        int[] due = {1, 2, 3, 5, 0};
        for (int k = 0; k < firsts.length; k++) {
            LacedSound x = live();
            List<Integer> packet = new ArrayList<>(List.of(firsts[k], 0, 0, 0, 0, 0, 0));
            Talk.bring(x, 3, 0, false, packet);
            CHECK.due("octet(0) ahead of take()", x.octet(0), firsts[k]);
            CHECK.due("take()", x.take(), due[k]);
            CHECK.due("octet(0) behind take()", x.octet(0), -1);
            CHECK.due("take() again", x.take(), -1);
            CHECK.due("amount() stays", x.amount(), 7);
        }
    }

    private static void noneInHand() {
        CHECK.sentence("NONE when no packet is in hand.");
        Twins.refused(CHECK, "take() on a new object", x -> { }, LacedSound::take, -1);
        Twins.refused(CHECK, "take() when it was taken", Packets::live, LacedSound::take, -1);
        Twins.refused(CHECK, "take() with a page that is not read", x -> x.flush(0, true), LacedSound::take, -1);
    }

    private static void refusedFormats() {
        CHECK.sentence("The SHORT block is 8 << a, the LONG one 8 << b; refused if a > b.");
        for (int a = 0; a < 4; a++) {
            for (int b = 0; b < 4; b++) {
                for (int channels = 1; channels <= 2; channels++) {
                    String what = "FORMAT of " + channels + " with " + a + " and " + b;
                    CHECK.due(what, take(new LacedSound(), Packets.format(channels, a, b).bytes()), a > b ? 0 : 1);
                }
            }
        }
    }

    private static void formatChangesNothing() {
        CHECK.sentence("A refused packet changes nothing.");
        for (int a = 1; a < 4; a++) {
            List<Integer> packet = Packets.format(1, a, a - 1).bytes();
            Twins.refusedPacket(CHECK, "FORMAT with a " + a + " and b " + (a - 1), Packets::live, packet);
            Twins.refusedPacket(CHECK, "FORMAT with a " + a + " on a new object", x -> { }, packet);
        }
    }

    private static void acceptedFormat() {
        CHECK.sentence("Accepted: there is no setup, no block, and samples() is 0.");
        LacedSound x = live();
        CHECK.due("block() ahead of it", x.block(), 24);
        CHECK.due("samples() ahead of it", x.samples(), 6);
        CHECK.due("value(1, 1) ahead of it", x.value(1, 1), -5);
        CHECK.due("the same FORMAT again", Talk.tell(x, Packets.format(2, 0, 1)), 1);
        CHECK.due("block()", x.block(), -1);
        CHECK.due("samples()", x.samples(), 0);
        for (int channel = 0; channel < 2; channel++) {
            CHECK.due("curve(" + channel + ", 1)", x.curve(channel, 1), -1);
            CHECK.due("value(" + channel + ", 1)", x.value(channel, 1), 0);
        }
        CHECK.due("a SOUND without setup", Talk.tell(x, new Bits().put(0, 8)), 0);
        CHECK.due("block() then", x.block(), -1);
        CHECK.due("a SETUP", Talk.tell(x, Packets.plainSetup()), 5);
        CHECK.due("block() with a setup alone", x.block(), -1);
        CHECK.due("a SOUND with a setup", Talk.tell(x, new Bits().put(0, 8)), 2);
        CHECK.due("samples(): no block since the FORMAT was ahead", x.samples(), 0);
    }

    private static void booksStay() {
        CHECK.sentence("(Books stay.)");
        LacedSound x = live();
        Talk.tell(x, Packets.format(1, 1, 1));
        int[] lastEntry = {15, 3, 7};
        for (int book = 0; book < 3; book++) {
            CHECK.due("the last entry of book " + book, x.entry(book, book == 0 ? 7 : book), lastEntry[book]);
        }
        CHECK.due("no book 3", x.entry(3, 0), -1);
        // The vectors of book 2 are 5, -1 and 8.
        Talk.tell(x, Packets.values(Packets.bareCurve(0, 0), 1, 0, 3, 3, 1, 0).put(1, 2).put(2, 2).put(0, 1));
        Talk.tell(x, Packets.channel(Packets.shortSound(), 1, 1).word("000").word("11").word("0").word("10"));
        int[] due = {8, 5, -1, 0};
        for (int place = 0; place < 4; place++) {
            CHECK.due("value(0, " + place + ")", x.value(0, place), due[place]);
        }
        CHECK.due("a fourth book", Talk.tell(x, Packets.evenBook(1, 1)), 3);
        CHECK.due("a fifth", Talk.tell(x, Packets.evenBook(1, 1)), 0);
    }

    private static void blockSizes() {
        CHECK.sentence("With n its size, it has n / 2 places 0 .. n / 2 - 1.");
        for (int a = 0; a < 4; a++) {
            for (int b = a; b < 4; b++) {
                LacedSound x = new LacedSound();
                Talk.tell(x, Packets.evenBook(1, 1));
                Talk.tell(x, Packets.format(2, a, b));
                Talk.tell(x, Packets.plainSetup());
                Talk.tell(x, Packets.channel(Packets.channel(Packets.shortSound(), 5, 5), 6, 6));
                edge(x, 4 << a);
                Talk.tell(x, Packets.channel(Packets.channel(Packets.longSound(0), 5, 5), 6, 6));
                edge(x, 4 << b);
            }
        }
    }

    private static void edge(LacedSound x, int places) {
        for (int channel = 0; channel < 2; channel++) {
            CHECK.due("the last of " + places + " places", x.curve(channel, places - 1), 5 + channel);
            CHECK.due("the place behind it", x.curve(channel, places), -1);
        }
    }

    private static void channelsOfAFormat() {
        CHECK.sentence("FORMAT: 1 bit, the channels less 1; 2 bits a; 2 bits b.");
        for (int channels = 1; channels <= 2; channels++) {
            LacedSound x = new LacedSound();
            Talk.tell(x, Packets.evenBook(1, 1));
            Talk.tell(x, Packets.format(channels, 0, 0));
            Talk.tell(x, Packets.plainSetup());
            Talk.tell(x, Packets.channel(Packets.channel(Packets.shortSound(), 5, 5), 6, 6));
            CHECK.due("block() of " + channels, x.block(), channels == 1 ? 8 : 24);
            CHECK.due("curve(1, 0) of " + channels, x.curve(1, 0), channels == 1 ? -1 : 6);
            CHECK.due("curve(2, 0) of " + channels, x.curve(2, 0), -1);
        }
    }
}
